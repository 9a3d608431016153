/-! the best pack of the class -/
section BEST
variable {Ca : pp_M → pp_M → Prop} {σ μ ν : pp_M} {G : Nat → Nat → Int} {W pk tp : Nat → Nat}
theorem least_ex {P : Nat → Prop} : ∀ (n : Nat), P n → ∃ k, k ≤ n ∧ P k ∧ ∀ j, j < k → ¬ P j := by
  intro n
  induction n using Nat.strongRecOn with
  | ind n ih =>
    intro hn
    by_cases h : ∃ j, j < n ∧ P j
    · obtain ⟨j, h1, h2⟩ := h
      obtain ⟨k, k1, k2, k3⟩ := ih j h1 h2
      exact ⟨k, by omega, k2, k3⟩
    · exact ⟨n, Nat.le_refl _, hn, fun j hj hp => h ⟨j, hj, hp⟩⟩
theorem LN_ex (h : pkOk G W 6 pk) {t n r : Nat} (htn : n + t = 5) : ∃ k, LN G W pk n t r k := by
  have h5 : 5 - n = t := by omega
  obtain ⟨q1, q2, q3, q4, q5⟩ := h t (by omega)
  obtain ⟨k, hk, e⟩ := dI_ex (W := W) (oth := dM G W pk n) (r := r) q2 (km W pk t r)
  have e2 : dM G W pk (n + 1) r = dI G W (dM G W pk n) t r (km W pk t r) := by
    show dI G W (dM G W pk n) (5 - n) r (km W pk (5 - n) r) = _
    rw [h5]
  obtain ⟨k', l1, l2, l3⟩ := least_ex (P := fun k => k ≤ km W pk t r ∧ G t k + dM G W pk n (r - k * W t) = dM G W pk (n + 1) r) k ⟨hk, by rw [e2, e]⟩
  exact ⟨k', l2.1, l2.2, fun j hj he => l3 j hj ⟨by have := l2.1; omega, he⟩⟩
theorem lI_inj {a b : Int} (ha1 : -9223372036854775808 ≤ a) (ha2 : a < 9223372036854775808) (hb1 : -9223372036854775808 ≤ b) (hb2 : b < 9223372036854775808) : lI a = lI b ↔ a = b := by
  refine ⟨fun h => ?_, fun h => by rw [h]⟩
  have := congrArg Int64.toInt h
  rw [lI_toInt ha1 ha2, lI_toInt hb1 hb2] at this
  exact this
theorem k_ln15 (hG : GK σ G W pk) (h : pkOk G W 6 pk) {t n r k0 L : Nat} (htn : n + t = 5) (hr : r ≤ L) (hL : L ≤ 100) (hR : ∀ t, t ≤ 6 → RT σ G W pk L t) (hk : LN G W pk n t r k0) : ∀ d k N, k + d = k0 → d < N → f_X5_leastNumber_15 N σ (nI t) (nI r) (nI (W t)) (nI k) = some (nI k0, σ) := by
  obtain ⟨p1, p2, p3, hW1, hW2⟩ := hG.2 t (by omega)
  have hkm : ∀ k, k ≤ km W pk t r ↔ k ≤ pk t ∧ k * W t ≤ r := fun k => km_le (by omega)
  have hb := dM_bd hG (tp := pk) (fun t ht => ⟨(h t ht).2.2.1, (h t ht).2.1⟩)
  have key : ∀ k N, k ≤ k0 → f_X5_leastNumber_15 (N + 1) σ (nI t) (nI r) (nI (W t)) (nI k) = if G t k + dM G W pk n (r - k * W t) = dM G W pk (n + 1) r then some (nI k, σ) else f_X5_leastNumber_15 N σ (nI t) (nI r) (nI (W t)) (nI (k + 1)) := by
    intro k N hkk
    show f_X5_leastNumber_15_B (f_X5_leastNumber_15 N) _ _ _ _ _ = _
    unfold f_X5_leastNumber_15_B
    have hk2 := (hkm k).mp (by have := hk.1; omega)
    have i1 : pp_ix (nI t) 6 := q_ix (by omega) (by omega)
    have i2 : pp_ix (nI k) 5 := q_ix (by omega) (by omega)
    have i3 : pp_ix (nI (t + 1)) 7 := q_ix (by omega) (by omega)
    have i4 : pp_ix (nI (r - k * W t)) 101 := q_ix (by omega) (by omega)
    have i5 : pp_ix (nI t) 7 := q_ix (by omega) (by omega)
    have i6 : pp_ix (nI r) 101 := q_ix (by omega) (by omega)
    have r1 := hR (t + 1) (by omega) (r - k * W t) (Nat.le_trans (Nat.sub_le _ _) hr)
    have r2 := hR t (by omega) r hr
    rw [show 6 - (t + 1) = n by omega] at r1
    rw [show 6 - t = n + 1 by omega] at r2
    have g := hG.1 t (by omega) k (by omega)
    have b1 := hb n (r - k * W t) (by omega)
    have b2 := hb (n + 1) r (by omega)
    have n1 : ¬ nI (pk t) < nI k := q_nl (by omega) (by omega)
    have n2 : ¬ nI r < nI (k * W t) := q_nl (by omega) (by omega)
    simp only [if_pos i1, q_cl (k := t) (show t < 2 ^ 31 by omega), p1, if_neg n1, pk_mul, if_neg n2, nI_1, pk_sub hk2.2, if_pos i2, if_pos i3, if_pos i4, if_pos i5, if_pos i6, q_cl (k := k) (show k < 2 ^ 31 by omega), q_cl (k := t + 1) (show t + 1 < 2 ^ 31 by omega), q_cl (k := r - k * W t) (show r - k * W t < 2 ^ 31 by omega), q_cl (k := r) (show r < 2 ^ 31 by omega), r1, r2, g.1, lI_add]
    have g2 := g.2
    clear r1 r2 g
    generalize dM G W pk n (r - k * W t) = x at b1 ⊢
    generalize dM G W pk (n + 1) r = y at b2 ⊢
    generalize G t k = z at g2 ⊢
    by_cases c : z + x = y
    · rw [if_pos c, if_pos (by rw [c])]
    · rw [if_neg c, if_neg (fun q => c ((lI_inj (by omega) (by omega) (by omega) (by omega)).mp q))]
  intro d
  induction d with
  | zero =>
    intro k N hd hN
    obtain ⟨N, rfl⟩ : ∃ n', N = n' + 1 := ⟨N - 1, by omega⟩
    rw [key k N (by omega), show k = k0 by omega, if_pos hk.2.1]
  | succ d ih =>
    intro k N hd hN
    obtain ⟨N, rfl⟩ : ∃ n', N = n' + 1 := ⟨N - 1, by omega⟩
    rw [key k N (by omega), if_neg (hk.2.2 k (by omega))]
    exact ih (k + 1) N (by omega) (by omega)
theorem k_leastNumber (hG : GK σ G W pk) (h : pkOk G W 6 pk) {t n r L : Nat} (htn : n + t = 5) (hr : r ≤ L) (hL : L ≤ 100) (hR : ∀ t, t ≤ 6 → RT σ G W pk L t) : ∃ k, f_X5_leastNumber σ (nI t) (nI r) = some (nI k, σ) ∧ LN G W pk n t r k := by
  obtain ⟨k, hk⟩ := LN_ex h (r := r) htn
  refine ⟨k, ?_, hk⟩
  unfold f_X5_leastNumber
  have i1 : pp_ix (nI t) 6 := q_ix (by omega) (by omega)
  have h4 := (h t (by omega)).2.2.1
  have hk1 := hk.1
  unfold km at hk1
  rw [if_pos i1, q_cl (k := t) (by omega), (hG.2 t (by omega)).2.2.1]
  exact k_ln15 hG h htn hr hL hR hk k 0 100000 (by omega) (by omega)
def P32 (a : Nat) (t i : Nat) : Prop := t = 32 ∧ a ≤ i ∧ i < 6
theorem P32_PP {a : Nat} {σ σ' : pp_M} (h : fr (P32 a) σ σ') : fr PP σ σ' := fr_mono h (fun t i q => by unfold P32 at q; unfold PP; omega)
theorem k_cb39 (h : pkOk G W 6 pk) {L : Nat} (hL : L ≤ 100) : ∀ d t r n σ, t + d = 6 → d < n → r ≤ L → GK σ G W pk → (∀ t, t ≤ 6 → RT σ G W pk L t) → ∃ σ' b, f_X5_chooseBest_39 n σ (nI r) (nI t) = some σ' ∧ b.length = d ∧ GR G W pk t r b ∧ fr (P32 t) σ σ' ∧ ∀ i, i < d → σ'.1 32 (t + i) = nI (b.getD i 0) := by
  intro d
  induction d with
  | zero =>
    intro t r n σ ht hn hr hG hR
    obtain ⟨n, rfl⟩ : ∃ n', n = n' + 1 := ⟨n - 1, by omega⟩
    have : t = 6 := by omega
    subst this
    refine ⟨σ, [], ?_, rfl, trivial, fr_rf, fun i hi => by omega⟩
    show f_X5_chooseBest_39_B (f_X5_chooseBest_39 n) _ _ _ = _
    unfold f_X5_chooseBest_39_B
    rw [if_neg (show ¬ nI 6 < (6 : Int32) from q_nlt 6)]
  | succ d ih =>
    intro t r n σ ht hn hr hG hR
    obtain ⟨n, rfl⟩ : ∃ n', n = n' + 1 := ⟨n - 1, by omega⟩
    obtain ⟨k, k1, k2⟩ := k_leastNumber hG h (t := t) (n := d) (by omega) hr hL hR
    obtain ⟨-, -, p3, hW1, hW2⟩ := hG.2 t (by omega)
    have hk := (km_le (W := W) (tp := pk) (by omega)).mp k2.1
    have hfr : fr (P32 t) σ (ppS σ 32 t (nI k)) := fr_S ⟨rfl, by omega, by omega⟩
    obtain ⟨σ', b, g1, g2, g3, g4, g5⟩ := ih (t + 1) (r - k * W t) n (ppS σ 32 t (nI k)) (by omega) (by omega) (by omega) (GK_fr hG (P32_PP hfr)) (fun u hu s hs => hR u hu s hs)
    refine ⟨σ', k :: b, ?_, by rw [List.length_cons, g2], ⟨by rw [g2]; exact k2, g3⟩, fr_tr hfr (fr_mono g4 (fun x i q => by unfold P32 at q ⊢; omega)), fun i hi => ?_⟩
    · show f_X5_chooseBest_39_B (f_X5_chooseBest_39 n) _ _ _ = _
      unfold f_X5_chooseBest_39_B
      have i1 : pp_ix (nI t) 6 := q_ix (by omega) (by omega)
      rw [if_pos (show nI t < (6 : Int32) from nI_lt (b := 6) (by omega) (by omega)), k1, Option.bind_some, if_pos i1]
      simp only [q_cl (show t < 2 ^ 31 by omega), qs_same, qs_tok (σ := σ) (t := 32) (i := t) (a := 3) (b := t * 6 + 1) (x := nI k) (by omega), p3, pk_mul, pk_sub hk.2, nI_1]
      exact g1
    · cases i with
      | zero =>
        rw [(g4 32 _ (by unfold P32; omega)).1, Nat.add_zero, qs_same]
        rfl
      | succ i =>
        rw [show t + (i + 1) = t + 1 + i by omega, g5 i (by omega)]
        rfl
theorem k_cb10 (hG : GK σ G W pk) (h : pkOk G W 6 pk) {L R : Nat} (hL : L ≤ 100) (hRL : R ≤ L) (hR : ∀ t, t ≤ 6 → RT σ G W pk L t) (h1 : ¬ dM G W pk 6 R < dM G W pk 6 L) (h2 : ∀ r, r < R → dM G W pk 6 r < dM G W pk 6 L) : ∀ d r n, r + d = R → d < n → f_X5_chooseBest_10 n σ (nI L) (lI (dM G W pk 6 L)) (nI r) = f_X5_chooseBest_36 σ (nI R) := by
  have hb := dM_bd hG (tp := pk) (fun t ht => ⟨(h t ht).2.2.1, (h t ht).2.1⟩)
  have cmp : ∀ r, r ≤ L → (lI (dM G W pk 6 r) < lI (dM G W pk 6 L) ↔ dM G W pk 6 r < dM G W pk 6 L) := fun r hr => by
    have b1 := hb 6 r (by omega)
    have b2 := hb 6 L (by omega)
    generalize dM G W pk 6 r = x at b1 ⊢
    generalize dM G W pk 6 L = y at b2 ⊢
    exact lI_lt (by omega) (by omega) (by omega) (by omega)
  have row : ∀ r, r ≤ L → σ.2 30 r = lI (dM G W pk 6 r) := fun r hr => by
    have := hR 0 (by omega) r hr
    rw [Nat.zero_mul, Nat.zero_add] at this
    exact this
  intro d
  induction d with
  | zero =>
    intro r n hd hn
    obtain ⟨n, rfl⟩ : ∃ n', n = n' + 1 := ⟨n - 1, by omega⟩
    have : r = R := by omega
    subst this
    show f_X5_chooseBest_10_B (f_X5_chooseBest_10 n) _ _ _ _ = _
    unfold f_X5_chooseBest_10_B
    have i1 : pp_ix (nI r) 101 := q_ix (by omega) (by omega)
    rw [if_pos i1, q_cl (k := r) (by omega), row r hRL, if_neg (fun q => h1 ((cmp r hRL).mp q))]
    split <;> rfl
  | succ d ih =>
    intro r n hd hn
    obtain ⟨n, rfl⟩ : ∃ n', n = n' + 1 := ⟨n - 1, by omega⟩
    show f_X5_chooseBest_10_B (f_X5_chooseBest_10 n) _ _ _ _ = _
    unfold f_X5_chooseBest_10_B
    have i1 : pp_ix (nI r) 101 := q_ix (by omega) (by omega)
    rw [if_pos (nI_lt (by omega) (by omega)), if_pos i1, q_cl (k := r) (by omega), row r (by omega), if_pos ((cmp r (by omega)).mpr (h2 r (by omega))), nI_1]
    exact ih (r + 1) n (by omega) (by omega)
theorem k_chooseBest (hG : GK σ G W pk) (hz : zK σ) (h : pkOk G W 6 pk) {L : Nat} (hL : L ≤ 100) : ∃ σ' b, f_X5_chooseBest σ (nI L) = some σ' ∧ b.length = 6 ∧ OPT G W 6 L (pc b) ∧ dgs 6 (pc b) = b ∧ fr PP σ σ' ∧ ∀ i, i < 6 → σ'.1 32 i = nI (b.getD i 0) := by
  have hp : ∀ t, t < 6 → pk t ≤ 4 ∧ G t 0 = 0 := fun t ht => ⟨(h t ht).2.2.1, (h t ht).2.1⟩
  obtain ⟨σ1, g1, g2, g3⟩ := k_mostGain hG hz (tp := pk) (bt := 6) (wb := -1) hp hL (fun t ht => ⟨fun q => by
    have := congrArg Int32.toInt q
    rw [nI_toInt (by omega), show (-1 : Int32).toInt = -1 from rfl] at this
    omega, fun q => by omega⟩) (fun t ht => by rw [if_neg (by omega)])
  obtain ⟨R, r1, r2, r3⟩ := least_ex (P := fun r => ¬ dM G W pk 6 r < dM G W pk 6 L) L (Int.lt_irrefl _)
  have hG1 := GK_fr hG (P30_PP g2 (by omega))
  have r4 : ∀ r, r < R → dM G W pk 6 r < dM G W pk 6 L := fun r hr => Classical.not_not.mp (r3 r hr)
  have re : dM G W pk 6 R = dM G W pk 6 L := by have := dM_mono h r1; omega
  obtain ⟨σ', b, d1, d2, d3, d4, d5⟩ := k_cb39 h hL 6 0 R 100000 σ1 (by omega) (by omega) r1 hG1 g3
  obtain ⟨o1, o2⟩ := opt_best h r1 re r4 d2 d3
  refine ⟨σ', b, ?_, d2, o1, o2, fr_tr (P30_PP g2 (by omega)) (P32_PP d4), fun i hi => ?_⟩
  · unfold f_X5_chooseBest
    rw [g1, Option.bind_some]
    show f_X5_chooseBest_10 100000 σ1 (nI L) (lI (dM G W pk 6 L)) (nI 0) = _
    rw [k_cb10 hG1 h hL r1 g3 r2 r4 R 0 100000 (by omega) (by omega)]
    exact d1
  · have := d5 i hi
    rw [Nat.zero_add] at this
    exact this
end BEST
