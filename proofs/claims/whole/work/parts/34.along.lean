/-! tools; the values along a row in the class -/
section ALONG
variable {Ca : pp_M → pp_M → Prop} {σ μ : pp_M}
theorem c1I : (1 : Int32) = nI 1 := rfl
theorem c3I : (3 : Int32) = nI 3 := rfl
theorem c4I : (4 : Int32) = nI 4 := rfl
theorem c5I : (5 : Int32) = nI 5 := rfl
theorem c6I : (6 : Int32) = nI 6 := rfl
theorem c8I : (8 : Int32) = nI 8 := rfl
theorem nI_s1 (a : Nat) : nI (a + 1) - (1 : Int32) = nI a := by rw [c1I, pk_sub (by omega)]; rfl
theorem nI_m1 (a : Nat) : nI (a + 1) + (-1 : Int32) = nI a := by
  rw [← nI_1, Int32.add_assoc, show (1 : Int32) + -1 = 0 from rfl, Int32.add_zero]
theorem nI_nneg {a : Nat} (h : a < 2 ^ 31) : ¬ nI a < (0 : Int32) := fun q => by
  rw [q_lt32, nI_toInt h, show (0 : Int32).toInt = 0 from rfl] at q
  omega
theorem q_nl {a b : Nat} (h : b ≤ a) (ha : a < 2 ^ 31) : ¬ nI a < nI b := fun q => by
  rw [q_lt32, nI_toInt ha, nI_toInt (by omega)] at q
  omega
theorem q_ltI {a b : Nat} (ha : a < 2 ^ 31) (hb : b < 2 ^ 31) : nI a < nI b ↔ a < b := by
  rw [q_lt32, nI_toInt ha, nI_toInt hb]
  omega
theorem nI_eqI {a b : Nat} (ha : a < 2 ^ 31) (hb : b < 2 ^ 31) : nI a = nI b ↔ a = b := by
  refine ⟨fun h => ?_, fun h => by rw [h]⟩
  have := congrArg Int32.toInt h
  rw [nI_toInt ha, nI_toInt hb] at this
  omega
/-- a table of longs: only these places of one token are written -/
def P23 (a b : Nat) (t i : Nat) : Prop := t = 23 ∧ a ≤ i ∧ i < b
theorem P23_sK {a b : Nat} {σ σ' : pp_M} (h : fr (P23 a b) σ σ') : fr sK σ σ' := fr_mono h (fun t i q => by unfold P23 at q; unfold sK; omega)
theorem base_23 {a b : Nat} {σ σ' : pp_M} (hB : Base σ μ) (h : fr (P23 a b) σ σ') : Base σ' μ := base_fr hB (P23_sK h) fr_rf
/-- row fs.length of the class's table holds the values along fs -/
def WR (σ μ : pp_M) (fs : List Nat) : Prop := ∀ t, t < 6 → ∀ k, k < 5 → σ.2 23 (fs.length * 30 + (t * 5 + k)) = lI (wv μ t fs k * 16 ^ (7 - fs.length))
theorem WR_fr {a b : Nat} {σ σ' : pp_M} {fs : List Nat} (h : WR σ μ fs) (hf : fr (P23 a b) σ σ') (ha : fs.length * 30 + 30 ≤ a) : WR σ' μ fs := fun t ht k hk => by
  rw [(hf 23 _ (by unfold P23; omega)).2]
  exact h t ht k hk
theorem av_rg (hI : Inv μ) {f t k l : Nat} {fs : List Nat} (hf : f < 8) (ht : t < 6) (hk : k < 4) (hr : fs.length ≤ 6) (ha : ∀ g ∈ fs, g < 8) : -200000000000 ≤ avI μ (wv μ t fs) fs.length f t (k + 1) l * 16 ^ (6 - fs.length) ∧ avI μ (wv μ t fs) fs.length f t (k + 1) l * 16 ^ (6 - fs.length) ≤ 200000000000 := by
  have h := av_bd (k := k) (l := l) (n := fs.length) hI hf ht (wv μ t fs) (wv_bd hI ht fs ha)
  have e : (16 : Int) ^ (fs.length + 1) * 16 ^ (6 - fs.length) = 268435456 := by
    rw [← Int.pow_add, show fs.length + 1 + (6 - fs.length) = 7 by omega]
    rfl
  have hp : (0 : Int) ≤ 16 ^ (6 - fs.length) := Int.pow_nonneg (by decide)
  have h1 := Int.mul_le_mul_of_nonneg_right h.1 hp
  have h2 := Int.mul_le_mul_of_nonneg_right h.2 hp
  have e2 : ∀ z : Int, (99 * (z * 16 ^ (fs.length + 1))) * 16 ^ (6 - fs.length) = 99 * (z * 268435456) := fun z => by rw [Int.mul_assoc, Int.mul_assoc, e]
  rw [Int.neg_mul, e2] at h1
  rw [e2] at h2
  omega
theorem s16 {n : Nat} (h : n ≤ 6) : (16 : Int) ^ (7 - n) = 16 * 16 ^ (6 - n) := by
  rw [show 7 - n = 6 - n + 1 by omega, Int.pow_succ, Int.mul_comm]
theorem k_meanAsked (hB : Base σ μ) (hI : Inv μ) {f t k l : Nat} {fs : List Nat} (hf : f < 8) (ht : t < 6) (hk : k < 4) (hl : l < 4) (hr : fs.length ≤ 6) (ha : ∀ g ∈ fs, g < 8) (hW : WR σ μ fs) :
    f_X0_meanAsked σ (nI (fs.length + 1)) (nI f) (nI t) (nI (k + 1)) (nI l) = some (lI (avI μ (wv μ t fs) fs.length f t (k + 1) l * 16 ^ (6 - fs.length)), σ) := by
  unfold f_X0_meanAsked
  have e1 : nI t * (5 : Int32) + nI (k + 1) = nI (t * 5 + (k + 1)) := by rw [c5I, pk_mul, nI_add]
  have e2 : nI (t * 5 + (k + 1)) - (1 : Int32) = nI (t * 5 + k) := nI_s1 _
  have e3 : (3 : Int32) + nI l = nI (3 + l) := by rw [c3I, nI_add]
  have i1 : pp_ix (nI fs.length) 8 := q_ix (by omega) (by omega)
  have i2 : pp_ix (nI (t * 5 + (k + 1))) 30 := q_ix (by omega) (by omega)
  have i3 : pp_ix (nI (t * 5 + k)) 30 := q_ix (by omega) (by omega)
  have i4 : pp_ix (nI t) 6 := q_ix (by omega) (by omega)
  have j1 : (nI fs.length).toNatClampNeg = fs.length := q_cl (by omega)
  have j2 : (nI (t * 5 + (k + 1))).toNatClampNeg = t * 5 + (k + 1) := q_cl (by omega)
  have j3 : (nI (t * 5 + k)).toNatClampNeg = t * 5 + k := q_cl (by omega)
  have j4 : (nI t).toNatClampNeg = t := q_cl (by omega)
  have w1 := hW t ht (k + 1) (by omega)
  have w0 := hW t ht k (by omega)
  simp only [nI_s1, e1, e2, e3, if_pos i1, if_pos i2, if_pos i3, if_pos i4, j1, j2, j3, j4]
  by_cases c : l = 3
  · subst c
    rw [if_pos (show nI 3 = (3 : Int32) from rfl), w1]
    congr 3
    unfold avI
    rw [if_neg (by omega), s16 hr, Int.mul_comm 16 (wv μ t fs (k + 1)), Int.mul_assoc]
  · have i5 : pp_ix (nI (3 + l)) 6 := q_ix (by omega) (by omega)
    have j5 : (nI (3 + l)).toNatClampNeg = 3 + l := q_cl (by omega)
    have hc := ch_bd hI hf ht (show l < 3 by omega)
    have hp : σ.1 3 (t * 6 + (3 + l)) = μ.1 44 (3 * t + l) := hB.2.1 t ht l (by omega)
    rw [if_neg (show ¬ nI l = (3 : Int32) from fun q => c ((nI_eqI (by omega) (by omega)).mp q)), k_chance hB hI hf ht (show l < 3 by omega)]
    simp only [Option.bind_some, if_pos i5, j5, w0, w1, hp]
    have x1 : (nI (chI μ f t l).toNat).toInt64 = lI (chI μ f t l) := by rw [lI_nI (by omega)]; congr 1; omega
    have x2 : ((16 : Int32) - nI (chI μ f t l).toNat).toInt64 = lI (16 - chI μ f t l) := by
      rw [show (16 : Int32) = nI 16 from rfl, pk_sub (by omega), lI_nI (by omega)]; congr 1; omega
    have hb := av_rg (l := l) hI hf ht hk hr ha
    rw [x1, x2, lI_i2l, show (268435456 : Int64) = lI 268435456 from rfl, lI_mul, lI_add, lI_mul, lI_mul, lI_add]
    have ee : chI μ f t l * ((μ.1 44 (3 * t + l)).toInt * 268435456 + wv μ t fs k * 16 ^ (7 - fs.length)) + (16 - chI μ f t l) * (wv μ t fs (k + 1) * 16 ^ (7 - fs.length)) = 16 * (avI μ (wv μ t fs) fs.length f t (k + 1) l * 16 ^ (6 - fs.length)) := by
      have e7 : (268435456 : Int) = 16 ^ fs.length * 16 ^ (7 - fs.length) := by
        rw [← Int.pow_add, show fs.length + (7 - fs.length) = 7 by omega]
        rfl
      rw [e7, ← Int.mul_assoc 16, Int.mul_comm 16, Int.mul_assoc _ 16, ← s16 hr]
      unfold avI prI
      rw [if_pos (show l < 3 by omega), Nat.add_sub_cancel]
      generalize (16 : Int) ^ (7 - fs.length) = S
      generalize (16 : Int) ^ fs.length = q
      rw [Int.add_mul, Int.mul_assoc (chI μ f t l), Int.add_mul, Int.mul_assoc (μ.1 44 (3 * t + l)).toInt, Int.mul_assoc (16 - chI μ f t l)]
    rw [ee, lI_div16 (by omega) (by omega)]
/-- a comparison in the class's units -/
theorem sc_lt {a b : Int} {n : Nat} (ha : -200000000000 ≤ a * 16 ^ n ∧ a * 16 ^ n ≤ 200000000000) (hb : -200000000000 ≤ b * 16 ^ n ∧ b * 16 ^ n ≤ 200000000000) : lI (a * 16 ^ n) < lI (b * 16 ^ n) ↔ a < b := by
  rw [lI_lt (by omega) (by omega) (by omega) (by omega)]
  have hp : (0 : Int) < 16 ^ n := Int.pow_pos (by decide)
  exact ⟨fun h => Int.lt_of_mul_lt_mul_right h (Int.le_of_lt hp), fun h => Int.mul_lt_mul_of_pos_right h hp⟩
theorem k_bL (hB : Base σ μ) (hI : Inv μ) {f t k : Nat} {fs : List Nat} (hf : f < 8) (ht : t < 6) (hk : k < 4) (hr : fs.length ≤ 6) (ha : ∀ g ∈ fs, g < 8) (hW : WR σ μ fs) (n l : Nat) (hl : l < 4) (b : Nat) (hb : b < 4) :
    f_X0_bestLevel_18 (n + 1) σ (nI (fs.length + 1)) (nI f) (nI t) (nI (k + 1)) (nI b) (lI (avI μ (wv μ t fs) fs.length f t (k + 1) b * 16 ^ (6 - fs.length))) (nI l) = f_X0_bestLevel_18 n σ (nI (fs.length + 1)) (nI f) (nI t) (nI (k + 1)) (nI (stB (avI μ (wv μ t fs) fs.length f t (k + 1)) l (avI μ (wv μ t fs) fs.length f t (k + 1) b, b)).2) (lI ((stB (avI μ (wv μ t fs) fs.length f t (k + 1)) l (avI μ (wv μ t fs) fs.length f t (k + 1) b, b)).1 * 16 ^ (6 - fs.length))) (nI (l + 1)) := by
  show f_X0_bestLevel_18_B (f_X0_bestLevel_18 n) _ _ _ _ _ _ _ _ = _
  unfold f_X0_bestLevel_18_B f_X0_bestLevel_53
  rw [if_neg (show ¬ (3 : Int32) < nI l from q_nl (a := 3) (by omega) (by omega)), k_meanAsked hB hI hf ht hk hl hr ha hW]
  simp only [Option.bind_some, nI_1]
  unfold stB
  by_cases c : avI μ (wv μ t fs) fs.length f t (k + 1) b < avI μ (wv μ t fs) fs.length f t (k + 1) l
  · rw [if_pos ((sc_lt (av_rg hI hf ht hk hr ha) (av_rg hI hf ht hk hr ha)).mpr c), if_pos c]
  · rw [if_neg (fun q => c ((sc_lt (av_rg hI hf ht hk hr ha) (av_rg hI hf ht hk hr ha)).mp q)), if_neg c]
theorem stB_lv {A : Nat → Int} {l b : Nat} (hl : l < 4) (hb : b < 4) : (stB A l (A b, b)).2 < 4 ∧ stB A l (A b, b) = (A (stB A l (A b, b)).2, (stB A l (A b, b)).2) := by
  unfold stB
  by_cases c : (A b, b).1 < A l
  · rw [if_pos c]; exact ⟨hl, rfl⟩
  · rw [if_neg c]; exact ⟨hb, rfl⟩
theorem k_bLa (hB : Base σ μ) (hI : Inv μ) {f t k : Nat} {fs : List Nat} (hf : f < 8) (ht : t < 6) (hk : k < 4) (hr : fs.length ≤ 6) (ha : ∀ g ∈ fs, g < 8) (hW : WR σ μ fs) (N : Nat) (hN : 3 < N) :
    f_X0_bestLevel_18 N σ (nI (fs.length + 1)) (nI f) (nI t) (nI (k + 1)) (nI 0) (lI (avI μ (wv μ t fs) fs.length f t (k + 1) 0 * 16 ^ (6 - fs.length))) (nI 1) = some (nI (lv μ t (f :: fs) (k + 1)), σ) := by
  obtain ⟨n, rfl⟩ : ∃ n, N = n + 1 + 1 + 1 + 1 := ⟨N - 4, by omega⟩
  have q1 := stB_lv (A := avI μ (wv μ t fs) fs.length f t (k + 1)) (l := 1) (b := 0) (by omega) (by omega)
  have q2 := stB_lv (A := avI μ (wv μ t fs) fs.length f t (k + 1)) (l := 2) (by omega) q1.1
  have q3 := stB_lv (A := avI μ (wv μ t fs) fs.length f t (k + 1)) (l := 3) (by omega) q2.1
  rw [k_bL hB hI hf ht hk hr ha hW _ 1 (by omega) 0 (by omega), congrArg Prod.fst q1.2]
  rw [k_bL hB hI hf ht hk hr ha hW _ 2 (by omega) _ q1.1, congrArg Prod.fst q2.2]
  rw [k_bL hB hI hf ht hk hr ha hW _ 3 (by omega) _ q2.1]
  show f_X0_bestLevel_18_B (f_X0_bestLevel_18 n) _ _ _ _ _ _ _ _ = _
  unfold f_X0_bestLevel_18_B
  rw [if_pos (show (3 : Int32) < nI 4 from nI_lt (a := 3) (by omega) (by omega))]
  rw [← q2.2, ← q1.2, bestA_eq]
  rfl
theorem k_bestLevel (hB : Base σ μ) (hI : Inv μ) {f t k : Nat} {fs : List Nat} (hf : f < 8) (ht : t < 6) (hk : k < 4) (hr : fs.length ≤ 6) (ha : ∀ g ∈ fs, g < 8) (hW : WR σ μ fs) :
    f_X0_bestLevel σ (nI (fs.length + 1)) (nI f) (nI t) (nI (k + 1)) = some (nI (lv μ t (f :: fs) (k + 1)), σ) := by
  unfold f_X0_bestLevel
  rw [show (0 : Int32) = nI 0 from rfl, k_meanAsked hB hI hf ht hk (show 0 < 4 by omega) hr ha hW, Option.bind_some]
  exact k_bLa hB hI hf ht hk hr ha hW 100000 (by omega)
theorem k_ca22 (k2 : pp_M → Int32 → Int32 → Int32 → Option pp_M) (hI : Inv μ) {f t : Nat} {fs : List Nat} (hf : f < 8) (ht : t < 6) (hr : fs.length ≤ 6) (ha : ∀ g ∈ fs, g < 8) : ∀ (m b n : Nat) (σ : pp_M), b + m = 4 → m < n → Base σ μ → WR σ μ fs → ∃ σ', f_X0_callAt_22 k2 n σ (nI (fs.length + 1)) (nI f) (nI t) (nI (b + 1)) = k2 σ' (nI (fs.length + 1)) (nI f) (nI (t + 1)) ∧ fr (P23 ((fs.length + 1) * 30 + (t * 5 + (b + 1))) ((fs.length + 1) * 30 + (t * 5 + 5))) σ σ' ∧ ∀ j, b + 1 ≤ j → j < 5 → σ'.2 23 ((fs.length + 1) * 30 + (t * 5 + j)) = lI (wv μ t (f :: fs) j * 16 ^ (6 - fs.length))
  | 0, b, n + 1, σ, hb, _, hB, hW => by
    have : b = 4 := by omega
    subst this
    refine ⟨σ, ?_, fr_rf, fun j h1 h2 => by omega⟩
    show f_X0_callAt_22_B k2 (f_X0_callAt_22 k2 n) _ _ _ _ _ = _
    unfold f_X0_callAt_22_B
    rw [if_neg (show ¬ nI 5 < (5 : Int32) from q_nlt 5), nI_1]
  | m + 1, b, n + 1, σ, hb, hn, hB, hW => by
    have i1 : pp_ix (nI (fs.length + 1)) 8 := q_ix (by omega) (by omega)
    have i2 : pp_ix (nI (t * 5 + (b + 1))) 30 := q_ix (by omega) (by omega)
    have j1 : (nI (fs.length + 1)).toNatClampNeg = fs.length + 1 := q_cl (by omega)
    have j2 : (nI (t * 5 + (b + 1))).toNatClampNeg = t * 5 + (b + 1) := q_cl (by omega)
    have e1 : nI t * (5 : Int32) + nI (b + 1) = nI (t * 5 + (b + 1)) := by rw [c5I, pk_mul, nI_add]
    have lb : lv μ t (f :: fs) (b + 1) < 4 ∧ avI μ (wv μ t fs) fs.length f t (b + 1) (lv μ t (f :: fs) (b + 1)) = wv μ t (f :: fs) (b + 1) := bestA_lv _
    have hfr : fr (P23 ((fs.length + 1) * 30 + (t * 5 + (b + 1))) ((fs.length + 1) * 30 + (t * 5 + 5))) σ (ppT σ 23 ((fs.length + 1) * 30 + (t * 5 + (b + 1))) (lI (wv μ t (f :: fs) (b + 1) * 16 ^ (6 - fs.length)))) := fr_T ⟨rfl, by omega, by omega⟩
    obtain ⟨σ', g1, g2, g3⟩ := k_ca22 k2 hI hf ht hr ha m (b + 1) n _ (by omega) (by omega) (base_23 hB hfr) (WR_fr hW hfr (by omega))
    refine ⟨σ', ?_, fr_tr hfr (fr_mono g2 (fun x i q => by unfold P23 at q ⊢; omega)), fun j h1 h2 => ?_⟩
    · show f_X0_callAt_22_B k2 (f_X0_callAt_22 k2 n) _ _ _ _ _ = _
      unfold f_X0_callAt_22_B
      rw [if_pos (show nI (b + 1) < (5 : Int32) from nI_lt (b := 5) (by omega) (by omega)), k_bestLevel hB hI hf ht (show b < 4 by omega) hr ha hW]
      simp only [Option.bind_some, if_pos i1]
      rw [k_meanAsked hB hI hf ht (show b < 4 by omega) lb.1 hr ha hW, lb.2]
      simp only [Option.bind_some, e1, if_pos i2, j1, j2, nI_1]
      exact g1
    · by_cases e : j = b + 1
      · subst e
        rw [(g2 23 _ (by unfold P23; omega)).2, qt_same]
      · exact g3 j (by omega) h2
theorem k_ca2 (hI : Inv μ) {f : Nat} {fs : List Nat} (hf : f < 8) (hr : fs.length ≤ 6) (ha : ∀ g ∈ fs, g < 8) : ∀ (m t n : Nat) (σ : pp_M), t + m = 6 → m < n → Base σ μ → WR σ μ fs → ∃ σ', f_X0_callAt_2 n σ (nI (fs.length + 1)) (nI f) (nI t) = some σ' ∧ fr (P23 ((fs.length + 1) * 30 + t * 5) ((fs.length + 1) * 30 + 30)) σ σ' ∧ ∀ u, t ≤ u → u < 6 → ∀ j, j < 5 → σ'.2 23 ((fs.length + 1) * 30 + (u * 5 + j)) = lI (wv μ u (f :: fs) j * 16 ^ (6 - fs.length))
  | 0, t, n + 1, σ, hb, _, hB, hW => by
    have : t = 6 := by omega
    subst this
    refine ⟨σ, ?_, fr_rf, fun j h1 h2 => by omega⟩
    show f_X0_callAt_2_B (f_X0_callAt_2 n) _ _ _ _ = _
    unfold f_X0_callAt_2_B
    rw [if_neg (show ¬ nI 6 < (6 : Int32) from q_nlt 6)]
  | m + 1, t, n + 1, σ, hb, hn, hB, hW => by
    have i1 : pp_ix (nI (fs.length + 1)) 8 := q_ix (by omega) (by omega)
    have i2 : pp_ix (nI (t * 5)) 30 := q_ix (by omega) (by omega)
    have j1 : (nI (fs.length + 1)).toNatClampNeg = fs.length + 1 := q_cl (by omega)
    have j2 : (nI (t * 5)).toNatClampNeg = t * 5 := q_cl (by omega)
    have e1 : nI t * (5 : Int32) = nI (t * 5) := by rw [c5I, pk_mul]
    have hfr : fr (P23 ((fs.length + 1) * 30 + t * 5) ((fs.length + 1) * 30 + 30)) σ (ppT σ 23 ((fs.length + 1) * 30 + t * 5) 0) := fr_T ⟨rfl, by omega, by omega⟩
    obtain ⟨σ1, g1, g2, g3⟩ := k_ca22 (f_X0_callAt_2 n) hI hf (show t < 6 by omega) hr ha 4 0 100000 _ (by omega) (by omega) (base_23 hB hfr) (WR_fr hW hfr (by omega))
    have hfr1 : fr (P23 ((fs.length + 1) * 30 + t * 5) ((fs.length + 1) * 30 + 30)) σ σ1 := fr_tr hfr (fr_mono g2 (fun x i q => by unfold P23 at q ⊢; omega))
    obtain ⟨σ', d1, d2, d3⟩ := k_ca2 hI hf hr ha m (t + 1) n σ1 (by omega) (by omega) (base_23 hB hfr1) (WR_fr hW hfr1 (by omega))
    refine ⟨σ', ?_, fr_tr hfr1 (fr_mono d2 (fun x i q => by unfold P23 at q ⊢; omega)), fun u h1 h2 j hj => ?_⟩
    · show f_X0_callAt_2_B (f_X0_callAt_2 n) _ _ _ _ = _
      unfold f_X0_callAt_2_B
      rw [if_pos (show nI t < (6 : Int32) from nI_lt (b := 6) (by omega) (by omega))]
      simp only [e1, if_pos i1, if_pos i2, j1, j2]
      rw [show f_X0_callAt_22 (f_X0_callAt_2 n) 100000 (ppT σ 23 ((fs.length + 1) * 30 + t * 5) 0) (nI (fs.length + 1)) (nI f) (nI t) 1 = _ from g1]
      exact d1
    · by_cases e : u = t
      · subst e
        rw [(d2 23 _ (by unfold P23; omega)).2]
        by_cases e0 : j = 0
        · subst e0
          rw [(g2 23 _ (by unfold P23; omega)).2, show (fs.length + 1) * 30 + (u * 5 + 0) = (fs.length + 1) * 30 + u * 5 from rfl, qt_same]
          show (0 : Int64) = lI (0 * _)
          rw [Int.zero_mul]
          rfl
        · exact g3 j (by omega) hj
      · exact d3 u (by omega) h2 j hj
theorem k_callAt (hB : Base σ μ) (hI : Inv μ) {f : Nat} {fs : List Nat} (hf : f < 8) (hr : fs.length ≤ 6) (ha : ∀ g ∈ fs, g < 8) (hW : WR σ μ fs) : ∃ σ', f_X0_callAt σ (nI (fs.length + 1)) (nI f) = some σ' ∧ fr (P23 ((fs.length + 1) * 30) ((fs.length + 1) * 30 + 30)) σ σ' ∧ WR σ' μ (f :: fs) := by
  obtain ⟨σ', g1, g2, g3⟩ := k_ca2 hI hf hr ha 6 0 100000 σ rfl (by omega) hB hW
  refine ⟨σ', g1, fr_mono g2 (fun x i q => by unfold P23 at q ⊢; omega), fun t ht k hk => ?_⟩
  have := g3 t (by omega) ht k hk
  rw [List.length_cons, this, show 7 - (fs.length + 1) = 6 - fs.length by omega]
end ALONG
