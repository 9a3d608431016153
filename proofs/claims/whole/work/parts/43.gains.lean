/-! gains -/
section GAINS
variable {Ca : pp_M → pp_M → Prop} {σ μ ν : pp_M} {G : Nat → Nat → Int} {W pk tp : Nat → Nat}
def coI (μ : pp_M) (t : Nat) : Int := (μ.1 41 t).toInt
def Wt (μ : pp_M) (t : Nat) : Nat := (μ.1 42 t).toInt.toNat
/-- in sixteenths to the length -/
def gn (μ : pp_M) (fs : List Nat) (t k : Nat) : Int := wv μ t fs k - k * coI μ t * 16 ^ fs.length
/-- in the class's units -/
def GS (μ : pp_M) (fs : List Nat) (t k : Nat) : Int := gn μ fs t k * 16 ^ (7 - fs.length)
theorem wv_0 (μ : pp_M) (t : Nat) : ∀ fs, wv μ t fs 0 = 0
  | [] => by show ((0 : Nat) : Int) * csI μ t = 0; rw [Int.natCast_zero, Int.zero_mul]
  | _ :: _ => rfl
theorem gn_0 (μ : pp_M) (fs : List Nat) (t : Nat) : gn μ fs t 0 = 0 := by
  unfold gn
  rw [wv_0, Int.natCast_zero, Int.zero_mul, Int.zero_mul]
  rfl
theorem GS_0 (μ : pp_M) (fs : List Nat) (t : Nat) : GS μ fs t 0 = 0 := by
  unfold GS
  rw [gn_0, Int.zero_mul]
theorem co_bd (hI : Inv μ) {t : Nat} (ht : t < 6) : 0 ≤ coI μ t ∧ coI μ t ≤ 99 := (hI.1 t ht).1
theorem Wt_ok (hI : Inv μ) {t : Nat} (ht : t < 6) : μ.1 42 t = nI (Wt μ t) ∧ 1 ≤ Wt μ t ∧ Wt μ t ≤ 20 := by
  have h := (hI.1 t ht).2.1
  unfold bd at h
  unfold Wt
  obtain ⟨j, hj, e⟩ := q_of (x := μ.1 42 t) (n := 20) (by omega) h.2
  rw [e] at h ⊢
  rw [nI_toInt (by omega)] at h ⊢
  exact ⟨rfl, by omega, by omega⟩
theorem GS_eq {fs : List Nat} (hr : fs.length ≤ 7) (t k : Nat) : GS μ fs t k = wv μ t fs k * 16 ^ (7 - fs.length) - k * coI μ t * 268435456 := by
  have e : (16 : Int) ^ fs.length * 16 ^ (7 - fs.length) = 268435456 := by
    rw [← Int.pow_add, show fs.length + (7 - fs.length) = 7 by omega]
    rfl
  unfold GS gn
  rw [Int.sub_mul, Int.mul_assoc _ (16 ^ fs.length), e]
theorem kc_bd {k : Nat} {c : Int} (hk : k < 5) (hc : 0 ≤ c ∧ c ≤ 99) : 0 ≤ (k : Int) * c ∧ (k : Int) * c ≤ 396 := by
  have : k = 0 ∨ k = 1 ∨ k = 2 ∨ k = 3 ∨ k = 4 := by omega
  rcases this with rfl | rfl | rfl | rfl | rfl <;> constructor <;> omega
theorem GS_bd (hI : Inv μ) {fs : List Nat} (hr : fs.length ≤ 7) (ha : ∀ g ∈ fs, g < 8) {t k : Nat} (ht : t < 6) (hk : k < 5) : -1000000000000 ≤ GS μ fs t k ∧ GS μ fs t k ≤ 1000000000000 := by
  rw [GS_eq hr]
  have h1 := wv_rg hI ht hk hr ha
  have h2 := kc_bd hk (co_bd hI ht)
  generalize wv μ t fs k * 16 ^ (7 - fs.length) = x at h1 ⊢
  generalize (k : Int) * coI μ t = y at h2 ⊢
  omega
/-- the least number with the most gain, of the first so many -/
def pkU (g : Nat → Int) : Nat → Nat
  | 0 => 0
  | k + 1 => if g (pkU g k) < g k then k else pkU g k
theorem pkU_le (g : Nat → Int) : ∀ k, pkU g k ≤ k ∧ (0 < k → pkU g k < k)
  | 0 => ⟨Nat.le_refl _, fun h => absurd h (by omega)⟩
  | k + 1 => by
    have := pkU_le g k
    unfold pkU
    split <;> omega
theorem pkU_max (g : Nat → Int) : ∀ k j, j < k → g j ≤ g (pkU g k)
  | 0, _, h => absurd h (by omega)
  | k + 1, j, h => by
    have ih := pkU_max g k
    unfold pkU
    by_cases c : g (pkU g k) < g k
    · rw [if_pos c]
      by_cases e : j = k
      · rw [e]; exact Int.le_refl _
      · have := ih j (by omega); omega
    · rw [if_neg c]
      by_cases e : j = k
      · rw [e]; omega
      · exact ih j (by omega)
def pkS (μ : pp_M) (fs : List Nat) (t : Nat) : Nat := pkU (GS μ fs t) 5
theorem pkOk_S (hI : Inv μ) (fs : List Nat) : pkOk (GS μ fs) (Wt μ) 6 (pkS μ fs) := fun t ht => by
  have h := (pkU_le (GS μ fs t) 5).2 (by omega)
  have hw := Wt_ok hI ht
  refine ⟨by omega, GS_0 μ fs t, by unfold pkS; omega, fun e => by omega, fun k hk _ _ => pkU_max (GS μ fs t) 5 k (by omega)⟩
def P27 (t : Nat) (x i : Nat) : Prop := (x = 27 ∧ t * 5 ≤ i) ∨ (x = 28 ∧ t ≤ i)
theorem k_wg17 (k2 : pp_M → Nat → Nat → Nat → Int32 → Option pp_M) {t o c : Nat} {w g : Nat → Int} (ht : t < 6) (hc : c ≤ 99) (hg : ∀ j, j < 5 → g j = w j - j * (c : Int) * 268435456 ∧ -1000000000000 ≤ g j ∧ g j ≤ 1000000000000) : ∀ d k n σ, k + d = 5 → d < n → (∀ j, j < 5 → σ.2 23 (o + (t * 5 + j)) = lI (w j)) → σ.1 3 (t * 6 + 0) = nI c → σ.1 28 t = nI (pkU g k) → (∀ j, j < k → σ.2 27 (t * 5 + j) = lI (g j)) → ∃ σ', f_X5_weighGains_17 k2 n σ 23 o 30 (nI t) (nI k) = k2 σ' 23 o 30 (nI (t + 1)) ∧ fr (fun x i => (x = 27 ∧ t * 5 ≤ i ∧ i < t * 5 + 5) ∨ (x = 28 ∧ i = t)) σ σ' ∧ (∀ j, j < 5 → σ'.2 27 (t * 5 + j) = lI (g j)) ∧ σ'.1 28 t = nI (pkU g 5) := by
  intro d
  induction d with
  | zero =>
    intro k n σ hk hn hw hc0 hp hgs
    obtain ⟨n, rfl⟩ : ∃ n', n = n' + 1 := ⟨n - 1, by omega⟩
    have : k = 5 := by omega
    subst this
    refine ⟨σ, ?_, fr_rf, hgs, hp⟩
    show f_X5_weighGains_17_B k2 (f_X5_weighGains_17 k2 n) _ _ _ _ _ _ = _
    unfold f_X5_weighGains_17_B
    rw [if_neg (show ¬ nI 5 < (5 : Int32) from q_nlt 5), nI_1]
  | succ d ih =>
    intro k n σ hk hn hw hc0 hp hgs
    obtain ⟨n, rfl⟩ : ∃ n', n = n' + 1 := ⟨n - 1, by omega⟩
    have hpl := pkU_le g k
    have hkc : k * c ≤ 4 * 99 := Nat.mul_le_mul (by omega) hc
    have ev : σ.2 23 (o + (t * 5 + k)) - (nI k * σ.1 3 (t * 6 + 0)).toInt64 * (268435456 : Int64) = lI (g k) := by
      rw [hw k (by omega), hc0, pk_mul, lI_nI (by omega), show (268435456 : Int64) = lI 268435456 from rfl, lI_mul, lI_sub, (hg k (by omega)).1, Int.natCast_mul]
    have rd : (ppT σ 27 (t * 5 + k) (lI (g k))).2 27 (t * 5 + pkU g k) = lI (g (pkU g k)) := by
      by_cases e : pkU g k = k
      · rw [e, qt_same]
      · rw [qt_ne (by omega)]; exact hgs _ (by omega)
    have e1 : nI t * (5 : Int32) + nI k = nI (t * 5 + k) := by rw [c5I, pk_mul, nI_add]
    have i1 : pp_ix (nI t) 6 := q_ix (by omega) (by omega)
    have i2 : pp_ix (nI (t * 5 + k)) 30 := q_ix (by omega) (by omega)
    have i3 : pp_ix (nI k) 5 := q_ix (by omega) (by omega)
    have i4 : pp_ix (nI (pkU g k)) 5 := q_ix (by omega) (by omega)
    have pu : ∀ j, j < k + 1 → (ppT σ 27 (t * 5 + k) (lI (g k))).2 27 (t * 5 + j) = lI (g j) := fun j hj => by
      by_cases e : j = k
      · rw [e, qt_same]
      · rw [qt_ne (by omega)]; exact hgs _ (by omega)
    have b1 := (hg k (by omega)).2
    have b2 := (hg (pkU g k) (by omega)).2
    have hcmp : lI (g (pkU g k)) < lI (g k) ↔ g (pkU g k) < g k := lI_lt (by omega) (by omega) (by omega) (by omega)
    have hfr1 : fr (fun x i => (x = 27 ∧ t * 5 ≤ i ∧ i < t * 5 + 5) ∨ (x = 28 ∧ i = t)) σ (ppT σ 27 (t * 5 + k) (lI (g k))) := fr_T (Or.inl ⟨rfl, by omega, by omega⟩)
    have step : ∀ σ1, fr (fun x i => (x = 27 ∧ t * 5 ≤ i ∧ i < t * 5 + 5) ∨ (x = 28 ∧ i = t)) σ σ1 → σ1.1 28 t = nI (pkU g (k + 1)) → (∀ j, j < k + 1 → σ1.2 27 (t * 5 + j) = lI (g j)) → f_X5_weighGains_17 k2 (n + 1) σ 23 o 30 (nI t) (nI k) = f_X5_weighGains_17 k2 n σ1 23 o 30 (nI t) (nI (k + 1)) → ∃ σ', f_X5_weighGains_17 k2 (n + 1) σ 23 o 30 (nI t) (nI k) = k2 σ' 23 o 30 (nI (t + 1)) ∧ fr (fun x i => (x = 27 ∧ t * 5 ≤ i ∧ i < t * 5 + 5) ∨ (x = 28 ∧ i = t)) σ σ' ∧ (∀ j, j < 5 → σ'.2 27 (t * 5 + j) = lI (g j)) ∧ σ'.1 28 t = nI (pkU g 5) := by
      intro σ1 f1 h1 h2 h3
      obtain ⟨σ', a1, a2, a3, a4⟩ := ih (k + 1) n σ1 (by omega) (by omega) (fun j hj => by rw [(f1 23 _ (by omega)).2]; exact hw j hj) (by rw [(f1 3 _ (by omega)).1]; exact hc0) h1 h2
      exact ⟨σ', by rw [h3, a1], fr_tr f1 a2, a3, a4⟩
    have body : f_X5_weighGains_17 k2 (n + 1) σ 23 o 30 (nI t) (nI k) = if g (pkU g k) < g k then f_X5_weighGains_17 k2 n (ppS (ppT σ 27 (t * 5 + k) (lI (g k))) 28 t (nI k)) 23 o 30 (nI t) (nI (k + 1)) else f_X5_weighGains_17 k2 n (ppT σ 27 (t * 5 + k) (lI (g k))) 23 o 30 (nI t) (nI (k + 1)) := by
      show f_X5_weighGains_17_B k2 (f_X5_weighGains_17 k2 n) _ _ _ _ _ _ = _
      unfold f_X5_weighGains_17_B f_X5_weighGains_88
      simp only [if_pos (show nI k < (5 : Int32) from nI_lt (b := 5) (by omega) (by omega)), if_pos i1, e1, if_pos i2, if_pos i3, q_cl (k := t) (show t < 2 ^ 31 by omega), q_cl (k := k) (show k < 2 ^ 31 by omega), q_cl (k := t * 5 + k) (show t * 5 + k < 2 ^ 31 by omega), ev, qt_1, hp, if_pos i4, q_cl (k := pkU g k) (show pkU g k < 2 ^ 31 by omega), rd, qt_same, nI_1, hcmp]
    by_cases c : g (pkU g k) < g k
    · rw [if_pos c] at body
      refine step _ (fr_tr hfr1 (fr_S (Or.inr ⟨rfl, rfl⟩))) ?_ pu body
      rw [qs_same]
      show nI k = nI (if g (pkU g k) < g k then k else pkU g k)
      rw [if_pos c]
    · rw [if_neg c] at body
      refine step _ hfr1 ?_ pu body
      show σ.1 28 t = nI (if g (pkU g k) < g k then k else pkU g k)
      rw [if_neg c, hp]
theorem k_wg2 (hI : Inv μ) {fs : List Nat} (hr : fs.length ≤ 7) (ha : ∀ g ∈ fs, g < 8) : ∀ d t n σ, t + d = 6 → d < n → Base σ μ → WR σ μ fs → (∀ u, u < t → (∀ k, k < 5 → σ.2 27 (u * 5 + k) = lI (GS μ fs u k)) ∧ σ.1 28 u = nI (pkS μ fs u)) → ∃ σ', f_X5_weighGains_2 n σ 23 (fs.length * 30) 30 (nI t) = some σ' ∧ fr (P27 t) σ σ' ∧ ∀ u, u < 6 → (∀ k, k < 5 → σ'.2 27 (u * 5 + k) = lI (GS μ fs u k)) ∧ σ'.1 28 u = nI (pkS μ fs u) := by
  intro d
  induction d with
  | zero =>
    intro t n σ ht hn hB hW hd
    obtain ⟨n, rfl⟩ : ∃ n', n = n' + 1 := ⟨n - 1, by omega⟩
    have : t = 6 := by omega
    subst this
    refine ⟨σ, ?_, fr_rf, hd⟩
    show f_X5_weighGains_2_B (f_X5_weighGains_2 n) _ _ _ _ _ = _
    unfold f_X5_weighGains_2_B
    rw [if_neg (show ¬ nI 6 < (6 : Int32) from q_nlt 6)]
  | succ d ih =>
    intro t n σ ht hn hB hW hd
    obtain ⟨n, rfl⟩ : ∃ n', n = n' + 1 := ⟨n - 1, by omega⟩
    have ht6 : t < 6 := by omega
    obtain ⟨c, hc, ec⟩ := q_of (x := μ.1 41 t) (n := 99) (co_bd hI ht6).1 (co_bd hI ht6).2
    have ec2 : coI μ t = (c : Int) := by unfold coI; rw [ec, nI_toInt (by omega)]
    have h0 : fr (P27 t) σ (ppS σ 28 t 0) := fr_S (Or.inr ⟨rfl, Nat.le_refl _⟩)
    obtain ⟨σ1, g1, g2, g3, g4⟩ := k_wg17 (f_X5_weighGains_2 n) (o := fs.length * 30) (w := fun k => wv μ t fs k * 16 ^ (7 - fs.length)) (g := GS μ fs t) ht6 hc (fun j hj => ⟨by rw [GS_eq hr, ec2], GS_bd hI hr ha ht6 hj⟩) 5 0 100000 (ppS σ 28 t 0) (by omega) (by omega) (fun j hj => hW t ht6 j hj) (by rw [qs_tok (by omega), hB.1 t ht6 0 (by omega)]; exact ec) (by rw [qs_same]; rfl) (fun j hj => absurd hj (by omega))
    have h1 : fr (P27 t) σ σ1 := fr_tr h0 (fr_mono g2 (fun x i q => by unfold P27; omega))
    have hs1 : fr sK σ σ1 := fr_mono h1 (fun x i q => by unfold P27 at q; unfold sK; omega)
    obtain ⟨σ', d1, d2, d3⟩ := ih (t + 1) n σ1 (by omega) (by omega) (base_fr hB hs1 fr_rf) (fun u hu k hk => by rw [(h1 23 _ (by unfold P27; omega)).2]; exact hW u hu k hk) (fun u hu => by
      by_cases e : u = t
      · rw [e]; exact ⟨g3, g4⟩
      · have := hd u (by omega)
        refine ⟨fun k hk => ?_, ?_⟩
        · rw [(h1 27 _ (by unfold P27; omega)).2]; exact this.1 k hk
        · rw [(h1 28 _ (by unfold P27; omega)).1]; exact this.2)
    refine ⟨σ', ?_, fr_tr h1 (fr_mono d2 (fun x i q => by unfold P27 at q ⊢; omega)), d3⟩
    show f_X5_weighGains_2_B (f_X5_weighGains_2 n) _ _ _ _ _ = _
    unfold f_X5_weighGains_2_B
    have i1 : pp_ix (nI t) 6 := q_ix (by omega) (by omega)
    rw [if_pos (show nI t < (6 : Int32) from nI_lt (b := 6) (by omega) (by omega)), if_pos i1, q_cl (k := t) (by omega)]
    rw [show f_X5_weighGains_17 (f_X5_weighGains_2 n) 100000 (ppS σ 28 t 0) 23 (fs.length * 30) 30 (nI t) 0 = _ from g1]
    exact d1
theorem k_weighGains (hB : Base σ μ) (hI : Inv μ) {fs : List Nat} (hr : fs.length ≤ 7) (ha : ∀ g ∈ fs, g < 8) (hW : WR σ μ fs) : ∃ σ', f_X5_weighGains σ 23 (fs.length * 30) 30 = some σ' ∧ fr (P27 0) σ σ' ∧ GK σ' (GS μ fs) (Wt μ) (pkS μ fs) := by
  obtain ⟨σ', g1, g2, g3⟩ := k_wg2 hI hr ha 6 0 100000 σ (by omega) (by omega) hB hW (fun u hu => absurd hu (by omega))
  refine ⟨σ', g1, g2, fun t ht k hk => ⟨(g3 t ht).1 k hk, GS_bd hI hr ha ht hk⟩, fun t ht => ⟨(g3 t ht).2, ?_, ?_, (Wt_ok hI ht).2⟩⟩
  · have h := (pkU_le (GS μ fs t) 5).2 (by omega)
    unfold pkS
    omega
  · rw [(g2 3 _ (by unfold P27; omega)).1, hB.1 t ht 1 (by omega)]
    exact (Wt_ok hI ht).1
/-- what weighing up writes -/
def WU (t i : Nat) : Prop := t = 23 ∨ t = 27 ∨ t = 28
theorem WU_sK {σ σ' : pp_M} (h : fr WU σ σ') : fr sK σ σ' := fr_mono h (fun t i q => by unfold WU at q; unfold sK; omega)
theorem k_weighUp (hB : Base σ μ) (hI : Inv μ) : ∃ σ', f_X8_weighUp σ = some σ' ∧ fr WU σ σ' ∧ GK σ' (GS μ (rowL μ)) (Wt μ) (pkS μ (rowL μ)) := by
  obtain ⟨σ1, g1, g2, g3⟩ := k_along hB hI
  have hl := (rowL_len hI).1
  have hw := g3 (rowL μ).length (Nat.le_refl _)
  rw [Nat.sub_self, List.drop_zero] at hw
  obtain ⟨σ', d1, d2, d3⟩ := k_weighGains (base_23 hB g2) hI hl (rowL_mem hI) hw
  refine ⟨σ', ?_, fr_tr (fr_mono g2 (fun t i q => by unfold P23 at q; unfold WU; omega)) (fr_mono d2 (fun t i q => by unfold P27 at q; unfold WU; omega)), d3⟩
  unfold f_X8_weighUp
  have s1 : σ1.1 0 10 = nI (rowL μ).length := by rw [(g2 0 10 (by unfold P23; omega)).1]; exact (rowL_K hB hI).2
  have i1 : pp_ix (nI (rowL μ).length) 8 := q_ix (by omega) (by omega)
  simp only [g1, Option.bind_some, s1, if_pos i1, q_cl (k := (rowL μ).length) (show (rowL μ).length < 2 ^ 31 by omega), d1]
theorem k_gO (hG : GK σ G W pk) {tk o nn : Nat} (hn : 6 ≤ nn) (hn2 : nn < 2 ^ 31) : ∀ (q : List Nat) (t n : Nat) (acc : Int), t + q.length = 6 → q.length < n → (∀ i, i < q.length → σ.1 tk (o + (t + i)) = nI (q.getD i 0) ∧ q.getD i 0 ≤ 4) → f_X5_gainOf_5 n σ tk o nn (lI acc) (nI t) = some (lI (acc + pg G t q), σ) := by
  intro q
  induction q with
  | nil =>
    intro t n acc ht hn' hq
    rw [List.length_nil] at ht hn'
    obtain ⟨n, rfl⟩ : ∃ n', n = n' + 1 := ⟨n - 1, by omega⟩
    have : t = 6 := by omega
    subst this
    show f_X5_gainOf_5_B (f_X5_gainOf_5 n) _ _ _ _ _ _ = _
    unfold f_X5_gainOf_5_B pg
    rw [if_neg (show ¬ nI 6 < (6 : Int32) from q_nlt 6), Int.add_zero]
  | cons k q ih =>
    intro t n acc ht hn' hq
    rw [List.length_cons] at ht hn'
    obtain ⟨n, rfl⟩ : ∃ n', n = n' + 1 := ⟨n - 1, by omega⟩
    have h0 := hq 0 (by rw [List.length_cons]; omega)
    rw [Nat.add_zero] at h0
    have e0 : (k :: q).getD 0 0 = k := rfl
    rw [e0] at h0
    have i1 : pp_ix (nI t) 6 := q_ix (by omega) (by omega)
    have i2 : pp_ix (nI t) nn := q_ix (by omega) hn2
    have i3 : pp_ix (nI k) 5 := q_ix (by omega) (by omega)
    show f_X5_gainOf_5_B (f_X5_gainOf_5 n) _ _ _ _ _ _ = _
    unfold f_X5_gainOf_5_B
    simp only [if_pos (show nI t < (6 : Int32) from nI_lt (b := 6) (by omega) (by omega)), if_pos i1, if_pos i2, q_cl (k := t) (show t < 2 ^ 31 by omega), h0.1, if_pos i3, q_cl (k := k) (show k < 2 ^ 31 by omega), (hG.1 t (by omega) k (by omega)).1, lI_add, nI_1]
    rw [ih (t + 1) n (acc + G t k) (by omega) (by omega) (fun i hi => by
      have := hq (i + 1) (by rw [List.length_cons]; omega)
      rw [show t + (i + 1) = t + 1 + i by omega] at this
      exact this)]
    show some (lI (acc + G t k + pg G (t + 1) q), σ) = some (lI (acc + (G t k + pg G (t + 1) q)), σ)
    rw [Int.add_assoc]
theorem k_gainOf (hG : GK σ G W pk) {tk o nn : Nat} {q : List Nat} (hn : 6 ≤ nn) (hn2 : nn < 2 ^ 31) (hq : q.length = 6) (h : ∀ i, i < 6 → σ.1 tk (o + i) = nI (q.getD i 0) ∧ q.getD i 0 ≤ 4) : f_X5_gainOf σ tk o nn = some (lI (pg G 0 q), σ) := by
  have := k_gO hG (tk := tk) (o := o) hn hn2 q 0 100000 0 (by omega) (by omega) (fun i hi => by rw [Nat.zero_add]; exact h i (by omega))
  rw [Int.zero_add] at this
  exact this
end GAINS
