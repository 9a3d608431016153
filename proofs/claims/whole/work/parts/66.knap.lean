/-! the reference's most gain for a row -/
section KNAP
variable {Ca : pp_M → pp_M → Prop} {σ μ ν : pp_M} {G : Nat → Nat → Int} {W : Nat → Nat}
def Kn (G : Nat → Nat → Int) (W : Nat → Nat) : Nat → Nat → Int
  | 0, _ => 0
  | t + 1, w => dI G W (Kn G W t) t w (km W (fun _ => 4) t w)
theorem kn_ub (hW : ∀ t, t < 6 → 0 < W t) (h0 : ∀ t, t < 6 → G t 0 = 0) : ∀ t c w, t ≤ 6 → pw W 0 (dgs t c) ≤ w → pg G 0 (dgs t c) ≤ Kn G W t w
  | 0, _, _, _, _ => Int.le_refl _
  | t + 1, c, w, ht, hw => by
    have e1 : pw W 0 (dgs (t + 1) c) = pw W 0 (dgs t (c / 5)) + c % 5 * W t := by
      show pw W 0 (dgs t (c / 5) ++ [c % 5]) = _
      rw [pw_app, dgs_len, Nat.zero_add]
    have e2 : pg G 0 (dgs (t + 1) c) = pg G 0 (dgs t (c / 5)) + G t (c % 5) := by
      show pg G 0 (dgs t (c / 5) ++ [c % 5]) = _
      rw [pg_app, dgs_len, Nat.zero_add]
    rw [e1] at hw
    rw [e2]
    have hk : c % 5 ≤ km W (fun _ => 4) t w := (km_le (hW t (by omega))).mpr ⟨by omega, by omega⟩
    have g := dI_ge (W := W) (oth := Kn G W t) (r := w) (h0 t (by omega)) _ _ hk
    have ih := kn_ub hW h0 t (c / 5) (w - c % 5 * W t) (by omega) (by omega)
    show _ ≤ dI G W (Kn G W t) t w (km W (fun _ => 4) t w)
    omega
theorem kn_ex (hW : ∀ t, t < 6 → 0 < W t) (h0 : ∀ t, t < 6 → G t 0 = 0) : ∀ t w, t ≤ 6 → ∃ c, c < 5 ^ t ∧ pw W 0 (dgs t c) ≤ w ∧ pg G 0 (dgs t c) = Kn G W t w
  | 0, _, _ => ⟨0, by omega, Nat.zero_le _, rfl⟩
  | t + 1, w, ht => by
    obtain ⟨k, k1, k2⟩ := dI_ex (W := W) (oth := Kn G W t) (r := w) (h0 t (by omega)) (km W (fun _ => 4) t w)
    obtain ⟨k3, k4⟩ := (km_le (hW t (by omega))).mp k1
    obtain ⟨c, c1, c2, c3⟩ := kn_ex hW h0 t (w - k * W t) (by omega)
    have k5 : k ≤ 4 := k3
    have hd : (5 * c + k) / 5 = c := by omega
    have hm : (5 * c + k) % 5 = k := by omega
    have e3 : dgs (t + 1) (5 * c + k) = dgs t c ++ [k] := by
      show dgs t ((5 * c + k) / 5) ++ [(5 * c + k) % 5] = _
      rw [hd, hm]
    refine ⟨5 * c + k, by rw [Nat.pow_succ]; omega, ?_, ?_⟩
    · rw [e3, pw_app, dgs_len, Nat.zero_add]; omega
    · rw [e3, pg_app, dgs_len, Nat.zero_add, c3]
      show _ = dI G W (Kn G W t) t w (km W (fun _ => 4) t w)
      omega
theorem kn_bd (hW : ∀ t, t < 6 → 0 < W t) (h0 : ∀ t, t < 6 → G t 0 = 0) (hG : ∀ t, t < 6 → ∀ k, k < 5 → -1000000000000 ≤ G t k ∧ G t k ≤ 1000000000000) (t w : Nat) (ht : t ≤ 6) : -6000000000000 ≤ Kn G W t w ∧ Kn G W t w ≤ 6000000000000 := by
  obtain ⟨c, c1, c2, c3⟩ := kn_ex hW h0 t w ht
  have := pg_bd hG t c ht
  rw [c3] at this
  omega
theorem kn_dM {tp : Nat → Nat} (h : pkOk G W 6 tp) (L : Nat) : Kn G W 6 L = dM G W tp 6 L := by
  have hW : ∀ t, t < 6 → 0 < W t := fun t ht => (h t ht).1
  have h0 : ∀ t, t < 6 → G t 0 = 0 := fun t ht => (h t ht).2.1
  apply Int.le_antisymm
  · obtain ⟨c, c1, c2, c3⟩ := kn_ex hW h0 6 L (by omega)
    rw [← c3]
    have := dM_ub h (dgs 6 c) 0 L (by rw [dgs_len]) (dgs_ok 6 c (by omega)) c2
    rw [dgs_len] at this
    exact this
  · obtain ⟨p, p1, p2, p3, p4⟩ := dM_ex h 6 0 L (by omega)
    have e := dgs_pc p2
    rw [p1] at e
    rw [← p4, ← e]
    exact kn_ub hW h0 6 (pc p) L (by omega) (by rw [e]; exact p3)
theorem kn_sc (hW : ∀ t, t < 6 → 0 < W t) (h0 : ∀ t, t < 6 → G t 0 = 0) {s : Int} (hs : 0 < s) (L : Nat) : Kn (fun t k => G t k * s) W 6 L = Kn G W 6 L * s := by
  have h0' : ∀ t, t < 6 → G t 0 * s = 0 := fun t ht => by rw [h0 t ht, Int.zero_mul]
  apply Int.le_antisymm
  · obtain ⟨c, c1, c2, c3⟩ := kn_ex (G := fun t k => G t k * s) hW h0' 6 L (by omega)
    rw [← c3, pg_sc]
    exact Int.mul_le_mul_of_nonneg_right (kn_ub hW h0 6 c L (by omega) c2) (Int.le_of_lt hs)
  · obtain ⟨c, c1, c2, c3⟩ := kn_ex hW h0 6 L (by omega)
    rw [← c3, ← pg_sc]
    exact kn_ub (G := fun t k => G t k * s) hW h0' 6 c L (by omega) c2
/-- what a row brings with its best pack, in the reference's units -/
def Vm (μ : pp_M) (R : List Nat) : Int := Kn (gn μ R) (Wt μ) 6 (Lm μ) * 16 ^ (5 - R.length)
theorem Vr_Vm (hI : Inv μ) {R : List Nat} (hr : R.length ≤ 5) : Vr μ R = Vm μ R * 256 := by
  have hW : ∀ t, t < 6 → 0 < Wt μ t := fun t ht => (Wt_ok hI ht).2.1
  have e := kn_sc hW (fun t ht => gn_0 μ R t) (s := 16 ^ (7 - R.length)) (Int.pow_pos (by decide)) (Lm μ)
  unfold Vr Vm
  rw [← kn_dM (pkOk_S hI R) (Lm μ)]
  show Kn (fun t k => gn μ R t k * 16 ^ (7 - R.length)) (Wt μ) 6 (Lm μ) = _
  rw [e, show 7 - R.length = (5 - R.length) + 2 by omega, Int.pow_add, ← Int.mul_assoc]
  rfl
def P62 (a b : Nat) (t i : Nat) : Prop := t = 62 ∧ a ≤ i ∧ i < b
theorem P62_mono {a b a' b' : Nat} {ν ν' : pp_M} (h : fr (P62 a b) ν ν') (ha : a' ≤ a) (hb : b ≤ b') : fr (P62 a' b') ν ν' := fr_mono h (fun x i q => ⟨q.1, Nat.le_trans ha q.2.1, Nat.lt_of_lt_of_le q.2.2 hb⟩)
theorem P62_sM {a b : Nat} {μ μ' : pp_M} (h : fr (P62 a b) μ μ') : fr sM μ μ' := fr_mono h (fun t i q => by unfold P62 at q; unfold sM; omega)
theorem GM_62 {fs : List Nat} {a b : Nat} {ν ν' : pp_M} (h : GM ν μ fs) (hf : fr (P62 a b) ν ν') : GM ν' μ fs := by
  obtain ⟨h1, h2, h3, h4⟩ := h
  refine ⟨fun t ht k hk => ?_, ?_, fr_tr h3 (P62_sM hf), h4⟩
  · rw [(hf 56 _ (by unfold P62; omega)).2]; exact h1 t ht k hk
  · rw [(hf 40 22 (by unfold P62; omega)).1]; exact h2
theorem m_mg46 (hI : Inv μ) (k29 : pp_M → Int32 → Option (Int64 × pp_M)) (k40 : pp_M → Int32 → Int32 → Option (Int64 × pp_M)) {R : List Nat} {t w : Nat} (ht : t < 6) (hw : w ≤ 100) : ∀ d k n ν, k + d = km (Wt μ) (fun _ => 4) t w → d < n → GM ν μ R → (∀ s, s < w → ν.2 62 s = lI (Kn (gn μ R) (Wt μ) t s)) → ν.2 62 w = lI (dI (gn μ R) (Wt μ) (Kn (gn μ R) (Wt μ) t) t w k) → ∃ ν', f_X9_mostGain_46 k29 k40 n ν (nI t) (nI w) (nI (k + 1)) = k40 ν' (nI t) (nI w + (-1 : Int32)) ∧ fr (P62 w (w + 1)) ν ν' ∧ ν'.2 62 w = lI (Kn (gn μ R) (Wt μ) (t + 1) w) := by
  have hWe := Wt_ok hI ht
  have hW : ∀ t, t < 6 → 0 < Wt μ t := fun t ht => (Wt_ok hI ht).2.1
  intro d
  induction d with
  | zero =>
    intro k n ν hk hn hG hs hc
    obtain ⟨n, rfl⟩ : ∃ n', n = n' + 1 := ⟨n - 1, by omega⟩
    rw [Nat.add_zero] at hk
    refine ⟨ν, ?_, fr_rf, ?_⟩
    · show f_X9_mostGain_46_B k29 k40 (f_X9_mostGain_46 k29 k40 n) _ _ _ _ = _
      unfold f_X9_mostGain_46_B f_X9_mostGain_122
      have i1 : pp_ix (nI t) 6 := q_ix (by omega) (by omega)
      have hnk : ¬ k + 1 ≤ km (Wt μ) (fun _ => 4) t w := by omega
      rw [km_le (hW t ht)] at hnk
      have hk4 : k ≤ 4 := ((km_le (hW t ht)).mp (Nat.le_of_eq hk)).1
      by_cases c : k + 1 < 5
      · rw [if_pos (show nI (k + 1) < (5 : Int32) from nI_lt (b := 5) c (by omega)), if_pos i1, q_cl (k := t) (by omega), (hG.2.2.1 42 t (by unfold sM; omega)).1, hWe.1, pk_mul]
        have hb : w < (k + 1) * Wt μ t := by
          rcases Nat.lt_or_ge w ((k + 1) * Wt μ t) with q | q
          · exact q
          · exact absurd ⟨by omega, q⟩ hnk
        have hb2 : (k + 1) * Wt μ t ≤ 5 * 20 := Nat.mul_le_mul (by omega) hWe.2.2
        rw [if_pos (nI_lt hb (by omega))]
      · rw [if_neg (show ¬ nI (k + 1) < (5 : Int32) from q_nl (b := 5) (by omega) (by omega))]
    · rw [hc, hk]; rfl
  | succ d ih =>
    intro k n ν hk hn hG hs hc
    obtain ⟨n, rfl⟩ : ∃ n', n = n' + 1 := ⟨n - 1, by omega⟩
    obtain ⟨q1, q2⟩ := (km_le (tp := fun _ => 4) (r := w) (k := k + 1) (hW t ht)).mp (by omega)
    have q3 : k + 1 ≤ 4 := q1
    have q5 : 1 * Wt μ t ≤ (k + 1) * Wt μ t := Nat.mul_le_mul_right _ (by omega)
    have gb := gn_bd hI hG.2.2.2.1 hG.2.2.2.2 ht (show k + 1 < 5 by omega)
    have kb := kn_bd (G := gn μ R) hW (fun t ht => gn_0 μ R t) (fun t ht k hk => gn_bd hI hG.2.2.2.1 hG.2.2.2.2 ht hk) t (w - (k + 1) * Wt μ t) (by omega)
    obtain ⟨j, j1, j2⟩ := dI_ex (W := Wt μ) (oth := Kn (gn μ R) (Wt μ) t) (r := w) (gn_0 μ R t) k
    have gb2 := gn_bd hI hG.2.2.2.1 hG.2.2.2.2 ht (show j < 5 by omega)
    have kb2 := kn_bd (G := gn μ R) hW (fun t ht => gn_0 μ R t) (fun t ht k hk => gn_bd hI hG.2.2.2.1 hG.2.2.2.2 ht hk) t (w - j * Wt μ t) (by omega)
    have e0 : f_X9_mostGain_46 k29 k40 (n + 1) ν (nI t) (nI w) (nI (k + 1)) = f_X9_mostGain_46_B k29 k40 (f_X9_mostGain_46 k29 k40 n) ν (nI t) (nI w) (nI (k + 1)) := rfl
    unfold f_X9_mostGain_46_B f_X9_mostGain_115 at e0
    have i1 : pp_ix (nI t) 6 := q_ix (by omega) (by omega)
    have i2 : pp_ix (nI (w - (k + 1) * Wt μ t)) 101 := q_ix (by omega) (by omega)
    have i3 : pp_ix (nI w) 101 := q_ix (by omega) (by omega)
    rw [if_pos (show nI (k + 1) < (5 : Int32) from nI_lt (b := 5) (by omega) (by omega)), if_pos i1, q_cl (k := t) (by omega), (hG.2.2.1 42 t (by unfold sM; omega)).1, hWe.1, pk_mul, if_neg (q_nl q2 (by omega)), pk_sub q2, if_pos i2, m_gainOf hI hG ht (by omega), Option.bind_some, if_pos i3, if_pos i3, if_pos i3, q_cl (k := w) (by omega), q_cl (k := w - (k + 1) * Wt μ t) (by omega)] at e0
    rw [hs (w - (k + 1) * Wt μ t) (by omega)] at e0
    dsimp only at e0
    rw [hc, lI_add, nI_1 (k + 1)] at e0
    have b0 : -7000000000000 ≤ dI (gn μ R) (Wt μ) (Kn (gn μ R) (Wt μ) t) t w k ∧ dI (gn μ R) (Wt μ) (Kn (gn μ R) (Wt μ) t) t w k ≤ 7000000000000 := by rw [j2]; omega
    have fin : ∃ ν', f_X9_mostGain_46 k29 k40 (n + 1) ν (nI t) (nI w) (nI (k + 1)) = f_X9_mostGain_46 k29 k40 n ν' (nI t) (nI w) (nI (k + 1 + 1)) ∧ fr (P62 w (w + 1)) ν ν' ∧ ν'.2 62 w = lI (dI (gn μ R) (Wt μ) (Kn (gn μ R) (Wt μ) t) t w (k + 1)) := by
      have eD : dI (gn μ R) (Wt μ) (Kn (gn μ R) (Wt μ) t) t w (k + 1) = if gn μ R t (k + 1) + Kn (gn μ R) (Wt μ) t (w - (k + 1) * Wt μ t) < dI (gn μ R) (Wt μ) (Kn (gn μ R) (Wt μ) t) t w k then dI (gn μ R) (Wt μ) (Kn (gn μ R) (Wt μ) t) t w k else gn μ R t (k + 1) + Kn (gn μ R) (Wt μ) t (w - (k + 1) * Wt μ t) := rfl
      rw [eD]
      clear eD
      by_cases c : dI (gn μ R) (Wt μ) (Kn (gn μ R) (Wt μ) t) t w k < Kn (gn μ R) (Wt μ) t (w - (k + 1) * Wt μ t) + gn μ R t (k + 1)
      · rw [if_pos ((lI_lt (by omega) (by omega) (by omega) (by omega)).mpr c)] at e0
        refine ⟨_, e0, fr_T ⟨rfl, by omega, by omega⟩, ?_⟩
        rw [qt_same, if_neg (by omega), Int.add_comm]
      · rw [if_neg (fun q => c ((lI_lt (by omega) (by omega) (by omega) (by omega)).mp q))] at e0
        refine ⟨_, e0, fr_T ⟨rfl, by omega, by omega⟩, ?_⟩
        rw [qt_same]
        by_cases c2 : gn μ R t (k + 1) + Kn (gn μ R) (Wt μ) t (w - (k + 1) * Wt μ t) < dI (gn μ R) (Wt μ) (Kn (gn μ R) (Wt μ) t) t w k
        · rw [if_pos c2]
        · rw [if_neg c2]
          exact congrArg lI (by omega)
    obtain ⟨ν1, f1, f2, f3⟩ := fin
    obtain ⟨ν2, g1, g2, g3⟩ := ih (k + 1) n ν1 (by omega) (by omega) (GM_62 hG f2) (fun s h => by rw [(f2 62 s (by unfold P62; omega)).2]; exact hs s h) f3
    exact ⟨ν2, f1.trans g1, fr_tr f2 g2, g3⟩
theorem m_mg40 (hI : Inv μ) (k29 : pp_M → Int32 → Option (Int64 × pp_M)) {R : List Nat} {t : Nat} (ht : t < 6) : ∀ w n ν, w ≤ 100 → w < n → GM ν μ R → (∀ s, s ≤ w → ν.2 62 s = lI (Kn (gn μ R) (Wt μ) t s)) → ∃ ν', f_X9_mostGain_40 k29 n ν (nI t) (nI w) = k29 ν' (nI (t + 1)) ∧ fr (P62 1 (w + 1)) ν ν' ∧ ∀ s, s ≤ w → ν'.2 62 s = lI (Kn (gn μ R) (Wt μ) (t + 1) s) := by
  intro w
  induction w with
  | zero =>
    intro n ν hw hn hG hs
    obtain ⟨n, rfl⟩ : ∃ n', n = n' + 1 := ⟨n - 1, by omega⟩
    refine ⟨ν, ?_, fr_rf, fun s h => ?_⟩
    · show f_X9_mostGain_40_B k29 (f_X9_mostGain_40 k29 n) _ _ _ = _
      unfold f_X9_mostGain_40_B
      rw [if_neg (show ¬ (0 : Int32) < nI 0 by decide), nI_1]
    · have : s = 0 := by omega
      subst this
      rw [hs 0 (by omega)]
      refine congrArg lI ?_
      show _ = dI (gn μ R) (Wt μ) (Kn (gn μ R) (Wt μ) t) t 0 (min 4 (0 / Wt μ t))
      rw [Nat.zero_div]
      rfl
  | succ w ih =>
    intro n ν hw hn hG hs
    obtain ⟨n, rfl⟩ : ∃ n', n = n' + 1 := ⟨n - 1, by omega⟩
    have hk5 : km (Wt μ) (fun _ => 4) t (w + 1) ≤ 4 := Nat.min_le_left _ _
    obtain ⟨ν1, g1, g2, g3⟩ := m_mg46 hI k29 (f_X9_mostGain_40 k29 n) ht hw (km (Wt μ) (fun _ => 4) t (w + 1)) 0 100000 ν (by omega) (by omega) hG (fun s h => hs s (by omega)) (hs (w + 1) (by omega))
    obtain ⟨ν2, d1, d2, d3⟩ := ih n ν1 (by omega) (by omega) (GM_62 hG g2) (fun s h => by rw [(g2 62 s (by unfold P62; omega)).2]; exact hs s (by omega))
    refine ⟨ν2, ?_, fr_tr (P62_mono g2 (by omega) (by omega)) (P62_mono d2 (by omega) (by omega)), fun s h => ?_⟩
    · show f_X9_mostGain_40_B k29 (f_X9_mostGain_40 k29 n) _ _ _ = _
      unfold f_X9_mostGain_40_B
      rw [if_pos (show (0 : Int32) < nI (w + 1) from nI_lt (a := 0) (by omega) (by omega)), show (1 : Int32) = nI (0 + 1) from rfl, g1, nI_m1]
      exact d1
    · by_cases e : s = w + 1
      · rw [e, (d2 62 _ (by unfold P62; omega)).2]; exact g3
      · exact d3 s (by omega)
theorem m_mg29 (hI : Inv μ) {R : List Nat} (hR : R.length ≤ 5) : ∀ d t n ν, t + d = 6 → d < n → GM ν μ R → (∀ s, s ≤ Lm μ → ν.2 62 s = lI (Kn (gn μ R) (Wt μ) t s)) → ∃ ν', f_X9_mostGain_29 n ν (nI t) = some (lI (Vm μ R), ν') ∧ fr (P62 0 101) ν ν' := by
  have hL := Lm_ok hI
  intro d
  induction d with
  | zero =>
    intro t n ν ht hn hG hs
    obtain ⟨n, rfl⟩ : ∃ n', n = n' + 1 := ⟨n - 1, by omega⟩
    have : t = 6 := by omega
    subst this
    refine ⟨ν, ?_, fr_rf⟩
    show f_X9_mostGain_29_B (f_X9_mostGain_29 n) _ _ = _
    unfold f_X9_mostGain_29_B
    have i1 : pp_ix (nI (Lm μ)) 101 := q_ix (by omega) (by omega)
    rw [if_neg (show ¬ nI 6 < (6 : Int32) by decide), (hG.2.2.1 40 7 (by unfold sM; omega)).1, hL.1, if_pos i1, q_cl (k := Lm μ) (by omega), hG.2.1, show (5 : Int32) = nI 5 from rfl, pk_sub hR, m_sixteen (by omega), Option.bind_some, hs _ (by omega), lI_mul]
    rfl
  | succ d ih =>
    intro t n ν ht hn hG hs
    obtain ⟨n, rfl⟩ : ∃ n', n = n' + 1 := ⟨n - 1, by omega⟩
    obtain ⟨ν1, g1, g2, g3⟩ := m_mg40 hI (f_X9_mostGain_29 n) (show t < 6 by omega) (Lm μ) 100000 ν (by omega) (by omega) hG hs
    obtain ⟨ν2, d1, d2⟩ := ih (t + 1) n ν1 (by omega) (by omega) (GM_62 hG g2) g3
    refine ⟨ν2, ?_, fr_tr (P62_mono g2 (by omega) (by omega)) d2⟩
    show f_X9_mostGain_29_B (f_X9_mostGain_29 n) _ _ = _
    unfold f_X9_mostGain_29_B
    rw [if_pos (show nI t < (6 : Int32) from nI_lt (b := 6) (by omega) (by omega)), (hG.2.2.1 40 7 (by unfold sM; omega)).1, hL.1, g1]
    exact d1
theorem m_mg6 (hI : Inv μ) {R : List Nat} (hR : R.length ≤ 5) : ∀ d a n ν, a + d = Lm μ + 1 → d < n → GM ν μ R → (∀ s, s < a → ν.2 62 s = 0) → ∃ ν', f_X9_mostGain_6 n ν (nI a) = some (lI (Vm μ R), ν') ∧ fr (P62 0 101) ν ν' := by
  have hL := Lm_ok hI
  intro d
  induction d with
  | zero =>
    intro a n ν ha hn hG hs
    obtain ⟨n, rfl⟩ : ∃ n', n = n' + 1 := ⟨n - 1, by omega⟩
    obtain ⟨ν1, g1, g2⟩ := m_mg29 hI hR 6 0 100000 ν (by omega) (by omega) hG (fun s h => hs s (by omega))
    refine ⟨ν1, ?_, g2⟩
    show f_X9_mostGain_6_B (f_X9_mostGain_6 n) _ _ = _
    unfold f_X9_mostGain_6_B
    rw [(hG.2.2.1 40 7 (by unfold sM; omega)).1, hL.1, if_pos (nI_lt (by omega) (by omega))]
    exact g1
  | succ d ih =>
    intro a n ν ha hn hG hs
    obtain ⟨n, rfl⟩ : ∃ n', n = n' + 1 := ⟨n - 1, by omega⟩
    have fS : fr (P62 0 101) ν (ppT ν 62 a 0) := fr_T ⟨rfl, by omega, by omega⟩
    obtain ⟨ν1, g1, g2⟩ := ih (a + 1) n _ (by omega) (by omega) (GM_62 hG fS) (fun s h => by
      by_cases e : s = a
      · rw [e, qt_same]
      · rw [qt_ne (fun q => e q.2)]; exact hs s (by omega))
    refine ⟨ν1, ?_, fr_tr fS g2⟩
    have i1 : pp_ix (nI a) 101 := q_ix (by omega) (by omega)
    show f_X9_mostGain_6_B (f_X9_mostGain_6 n) _ _ = _
    unfold f_X9_mostGain_6_B
    rw [(hG.2.2.1 40 7 (by unfold sM; omega)).1, hL.1, if_neg (q_nl (by omega) (by omega)), if_pos i1, q_cl (k := a) (by omega), nI_1]
    exact g1
/-- what laying the worth and the most gain write -/
def PMG (t i : Nat) : Prop := t = 56 ∨ t = 57 ∨ t = 62
theorem m_mostGain (hI : Inv μ) {R : List Nat} (hR : R.length ≤ 5) (ha : ∀ g ∈ R, g < 8) (hf : fr sM μ ν) (h22 : ν.1 40 22 = nI R.length) (hr : isRow (ν.1 55) 0 R) : ∃ ν', f_X9_mostGain ν = some (lI (Vm μ R), ν') ∧ fr PMG ν ν' := by
  obtain ⟨ν1, g1, g2, g3⟩ := m_laysWorth (inv_fr hI hf) (show R.length ≤ 7 by omega) ha h22 hr
  have hG : GM ν1 μ R := ⟨fun t ht k hk => by rw [((VS_mu hf (g3 t ht 0 (by omega))) k hk).1]; rfl, by rw [(g2 40 22 (by unfold P56; omega)).1]; exact h22, fr_tr hf (P56_sM g2), by omega, ha⟩
  obtain ⟨ν2, d1, d2⟩ := m_mg6 hI hR (Lm μ + 1) 0 100000 ν1 (by omega) (by have := Lm_ok hI; omega) hG (fun s h => by omega)
  refine ⟨ν2, ?_, fr_tr (fr_mono g2 (fun t i q => by unfold P56 at q; unfold PMG; omega)) (fr_mono d2 (fun t i q => Or.inr (Or.inr q.1)))⟩
  unfold f_X9_mostGain
  rw [g1, Option.bind_some]
  exact d1
end KNAP
