/-! the WAYS: Floyd and Warshall's steps in class and reference -/
/-- a token's ints as a whole -/
def ppF (σ : pp_M) (t : Nat) (w : Nat → Int32) : pp_M := (fun a b => if a = t then w b else σ.1 a b, σ.2)
theorem pF_rd (σ : pp_M) (t : Nat) (w : Nat → Int32) (j : Nat) : (ppF σ t w).1 t j = w j := if_pos rfl
theorem pF_ot {σ : pp_M} {t a j : Nat} {w : Nat → Int32} (h : a ≠ t) : (ppF σ t w).1 a j = σ.1 a j := if_neg h
theorem pF_S (σ : pp_M) (t : Nat) (w : Nat → Int32) (i : Nat) (x : Int32) : ppS (ppF σ t w) t i x = ppF σ t (fun j => if j = i then x else w j) := by
  unfold ppS ppF
  refine Prod.ext (funext fun a => funext fun b => ?_) rfl
  show (if a = t ∧ b = i then x else if a = t then w b else σ.1 a b) = if a = t then (if b = i then x else w b) else σ.1 a b
  by_cases h1 : a = t
  · by_cases h2 : b = i
    · simp [h1, h2]
    · simp [h1, h2]
  · simp [h1]
theorem pF_id (σ : pp_M) (t : Nat) : ppF σ t (σ.1 t) = σ := by
  unfold ppF
  refine Prod.ext (funext fun a => funext fun b => ?_) rfl
  show (if a = t then σ.1 t b else σ.1 a b) = σ.1 a b
  by_cases h : a = t
  · rw [if_pos h, h]
  · rw [if_neg h]
theorem pF_fr {P : Nat → Nat → Prop} {σ : pp_M} {t : Nat} {w : Nat → Int32} (h : ∀ i, P t i) : fr P σ (ppF σ t w) := fun a b hq => ⟨pF_ot (fun q => hq (by rw [q]; exact h b)), rfl⟩
theorem fwR_cong {w w' : Nat → Int32} {o : Nat} (ho : o < 8) (h : ∀ i, i < 64 → w i = w' i) : ∀ n, n ≤ 64 → ∀ i, i < 64 → fwR o w n i = fwR o w' n i
  | 0, _, i, hi => h i hi
  | n + 1, hn, i, hi => by
    have ih := fwR_cong ho h n (by omega)
    show fwS o n (fwR o w n) i = fwS o n (fwR o w' n) i
    unfold fwS
    rw [ih i hi, ih n (by omega), ih (n / 8 * 8 + o) (by omega), ih (8 * o + n % 8) (by omega)]
theorem fwB_cong {w w' : Nat → Int32} (h : ∀ i, i < 64 → w i = w' i) : ∀ n, n ≤ 8 → ∀ i, i < 64 → fwB w n i = fwB w' n i
  | 0, _, i, hi => h i hi
  | n + 1, hn, i, hi => fwR_cong (by omega) (fwB_cong h n (by omega)) 64 (by omega) i hi
section WAYS
variable {σ μ : pp_M}
theorem k_w88 (k72 : pp_M → Int32 → Option pp_M) (k80 : pp_M → Int32 → Int32 → Option pp_M) (w : Nat → Int32) {o a : Nat} (ho : o < 8) (ha : a < 8) : ∀ (m b n : Nat), b + m = 8 → m < n → f_X2_findWays_88 k72 k80 n (ppF σ 8 (fwR o w (8 * a + b))) (nI o) (nI a) (nI b) = k80 (ppF σ 8 (fwR o w (8 * a + 8))) (nI o) (nI (a + 1))
  | 0, b, n + 1, hb, _ => by
    have : b = 8 := by omega
    subst this
    show f_X2_findWays_88_B k72 k80 (f_X2_findWays_88 k72 k80 n) _ _ _ _ = _
    unfold f_X2_findWays_88_B
    rw [if_neg (show ¬ nI 8 < (8 : Int32) by decide), nI_1]
  | m + 1, b, n + 1, hb, hn => by
    show f_X2_findWays_88_B k72 k80 (f_X2_findWays_88 k72 k80 n) _ _ _ _ = _
    unfold f_X2_findWays_88_B
    have c1 : nI b < (8 : Int32) := nI_lt (b := 8) (by omega) (by omega)
    have i1 : pp_ix (nI a) 8 := q_ix ha (by omega)
    have i2 : pp_ix (nI b) 8 := q_ix (by omega) (by omega)
    have i3 : pp_ix (nI o) 8 := q_ix ho (by omega)
    have j1 : (nI a).toNatClampNeg = a := q_cl (by omega)
    have j2 : (nI b).toNatClampNeg = b := q_cl (by omega)
    have j3 : (nI o).toNatClampNeg = o := q_cl (by omega)
    simp only [if_pos c1, if_pos i1, if_pos i2, if_pos i3, j1, j2, j3, pF_rd, pF_S, nI_1]
    rw [← k_w88 k72 k80 w ho ha m (b + 1) n (by omega) (by omega)]
    congr 2
    show _ = fwS o (8 * a + b) (fwR o w (8 * a + b))
    funext j
    unfold fwS
    rw [show (8 * a + b) / 8 * 8 + o = a * 8 + o by omega, show 8 * o + (8 * a + b) % 8 = o * 8 + b by omega, show 8 * a + b = a * 8 + b by omega]
theorem k_w80 (k72 : pp_M → Int32 → Option pp_M) (w : Nat → Int32) {o : Nat} (ho : o < 8) : ∀ (m a n : Nat), a + m = 8 → m < n → f_X2_findWays_80 k72 n (ppF σ 8 (fwR o w (8 * a))) (nI o) (nI a) = k72 (ppF σ 8 (fwR o w 64)) (nI (o + 1))
  | 0, a, n + 1, hb, _ => by
    have : a = 8 := by omega
    subst this
    show f_X2_findWays_80_B k72 (f_X2_findWays_80 k72 n) _ _ _ = _
    unfold f_X2_findWays_80_B
    rw [if_neg (show ¬ nI 8 < (8 : Int32) by decide), nI_1]
  | m + 1, a, n + 1, hb, hn => by
    show f_X2_findWays_80_B k72 (f_X2_findWays_80 k72 n) _ _ _ = _
    unfold f_X2_findWays_80_B
    have c1 : nI a < (8 : Int32) := nI_lt (b := 8) (by omega) (by omega)
    rw [if_pos c1]
    have h1 := k_w88 (σ := σ) k72 (f_X2_findWays_80 k72 n) w ho (a := a) (by omega) 8 0 100000 rfl (by omega)
    rw [show 8 * a + 0 = 8 * a by omega] at h1
    rw [show (0 : Int32) = nI 0 from rfl, h1, show 8 * a + 8 = 8 * (a + 1) by omega]
    exact k_w80 k72 w ho m (a + 1) n (by omega) (by omega)
theorem k_w72 (w : Nat → Int32) : ∀ (m o n : Nat), o + m = 8 → m < n → f_X2_findWays_72 n (ppF σ 8 (fwB w o)) (nI o) = some (ppF σ 8 (fwB w 8))
  | 0, o, n + 1, hb, _ => by
    have : o = 8 := by omega
    subst this
    show f_X2_findWays_72_B (f_X2_findWays_72 n) _ _ = _
    unfold f_X2_findWays_72_B
    rw [if_neg (show ¬ nI 8 < (8 : Int32) by decide)]
  | m + 1, o, n + 1, hb, hn => by
    show f_X2_findWays_72_B (f_X2_findWays_72 n) _ _ = _
    unfold f_X2_findWays_72_B
    have c1 : nI o < (8 : Int32) := nI_lt (b := 8) (by omega) (by omega)
    rw [if_pos c1]
    have h1 := k_w80 (σ := σ) (f_X2_findWays_72 n) (fwB w o) (o := o) (by omega) 8 0 100000 rfl (by omega)
    rw [show 8 * 0 = 0 from rfl] at h1
    rw [show (0 : Int32) = nI 0 from rfl]
    have e0 : fwR o (fwB w o) 0 = fwB w o := rfl
    rw [e0] at h1
    rw [h1]
    exact k_w72 w m (o + 1) n (by omega) (by omega)
/-- the first k ROADS laid -/
def fwI (r w : Nat → Int32) (k : Nat) : Nat → Int32 := fun j => if j < k then fw0 r j else w j
theorem fwI_S (r w : Nat → Int32) (k : Nat) : (fun j => if j = k then fw0 r k else fwI r w k j) = fwI r w (k + 1) := by
  funext j
  unfold fwI
  by_cases h : j = k
  · rw [if_pos h, if_pos (by omega), h]
  · rw [if_neg h]
    by_cases h2 : j < k
    · rw [if_pos h2, if_pos (by omega)]
    · rw [if_neg h2, if_neg (by omega)]
theorem k_w10 (k2 : pp_M → Int32 → Option pp_M) (w : Nat → Int32) {a : Nat} (ha : a < 8) : ∀ (m b n : Nat), b + m = 8 → m < n → f_X2_findWays_10 k2 n (ppF σ 8 (fwI (σ.1 6) w (8 * a + b))) (nI a) (nI b) = k2 (ppF σ 8 (fwI (σ.1 6) w (8 * a + 8))) (nI (a + 1))
  | 0, b, n + 1, hb, _ => by
    have : b = 8 := by omega
    subst this
    show f_X2_findWays_10_B k2 (f_X2_findWays_10 k2 n) _ _ _ = _
    unfold f_X2_findWays_10_B
    rw [if_neg (show ¬ nI 8 < (8 : Int32) by decide), nI_1]
  | m + 1, b, n + 1, hb, hn => by
    show f_X2_findWays_10_B k2 (f_X2_findWays_10 k2 n) _ _ _ = _
    unfold f_X2_findWays_10_B f_X2_findWays_57
    have c1 : nI b < (8 : Int32) := nI_lt (b := 8) (by omega) (by omega)
    have i1 : pp_ix (nI a) 8 := q_ix ha (by omega)
    have i2 : pp_ix (nI b) 8 := q_ix (by omega) (by omega)
    have j1 : (nI a).toNatClampNeg = a := q_cl (by omega)
    have j2 : (nI b).toNatClampNeg = b := q_cl (by omega)
    have hd : (8 * a + b) / 8 = a := by omega
    have hm : (8 * a + b) % 8 = b := by omega
    have e6 : (ppF σ 8 (fwI (σ.1 6) w (8 * a + b))).1 6 (a * 8 + b) = σ.1 6 (8 * a + b) := by rw [pF_ot (by omega), show a * 8 + b = 8 * a + b by omega]
    have fin : ∀ x, x = fw0 (σ.1 6) (8 * a + b) → f_X2_findWays_10 k2 n (ppF σ 8 (fun j => if j = a * 8 + b then x else fwI (σ.1 6) w (8 * a + b) j)) (nI a) (nI (b + 1)) = k2 (ppF σ 8 (fwI (σ.1 6) w (8 * a + 8))) (nI (a + 1)) := fun x hx => by
      rw [hx, show a * 8 + b = 8 * a + b by omega, fwI_S]
      exact k_w10 k2 w ha m (b + 1) n (by omega) (by omega)
    simp only [if_pos c1, if_pos i1, if_pos i2, j1, j2, e6, pF_S, nI_1]
    by_cases c2 : nI a = nI b
    · rw [if_pos c2]
      refine fin _ ?_
      rw [nI_eq (by omega) (by omega)] at c2
      unfold fw0
      rw [hd, hm, if_pos c2]
    · rw [if_neg c2]
      rw [nI_eq (by omega) (by omega)] at c2
      by_cases c3 : 0 < σ.1 6 (8 * a + b)
      · rw [if_pos c3]
        refine fin _ ?_
        unfold fw0
        rw [hd, hm, if_neg c2, if_pos c3]
      · rw [if_neg c3]
        refine fin _ ?_
        unfold fw0
        rw [hd, hm, if_neg c2, if_neg c3]
theorem k_w2 (w : Nat → Int32) : ∀ (m a n : Nat), a + m = 8 → m < n → f_X2_findWays_2 n (ppF σ 8 (fwI (σ.1 6) w (8 * a))) (nI a) = some (ppF σ 8 (fwB (fwI (σ.1 6) w 64) 8))
  | 0, a, n + 1, hb, _ => by
    have : a = 8 := by omega
    subst this
    show f_X2_findWays_2_B (f_X2_findWays_2 n) _ _ = _
    unfold f_X2_findWays_2_B
    rw [if_neg (show ¬ nI 8 < (8 : Int32) by decide)]
    exact k_w72 (fwI (σ.1 6) w 64) 8 0 100000 rfl (by omega)
  | m + 1, a, n + 1, hb, hn => by
    show f_X2_findWays_2_B (f_X2_findWays_2 n) _ _ = _
    unfold f_X2_findWays_2_B
    have c1 : nI a < (8 : Int32) := nI_lt (b := 8) (by omega) (by omega)
    rw [if_pos c1]
    have h1 := k_w10 (σ := σ) (f_X2_findWays_2 n) w (a := a) (by omega) 8 0 100000 rfl (by omega)
    rw [show 8 * a + 0 = 8 * a by omega] at h1
    rw [show (0 : Int32) = nI 0 from rfl, h1, show 8 * a + 8 = 8 * (a + 1) by omega]
    exact k_w2 w m (a + 1) n (by omega) (by omega)
theorem k_findWays (σ : pp_M) : ∃ w, f_X2_findWays σ = some (ppF σ 8 w) ∧ ∀ i, i < 64 → w i = fw (σ.1 6) i := by
  refine ⟨fwB (fwI (σ.1 6) (σ.1 8) 64) 8, ?_, fun i hi => fwB_cong (fun j hj => if_pos hj) 8 (by omega) i hi⟩
  have h := k_w2 (σ := σ) (σ.1 8) 8 0 100000 rfl (by omega)
  have e : ppF σ 8 (fwI (σ.1 6) (σ.1 8) (8 * 0)) = σ := by
    have : fwI (σ.1 6) (σ.1 8) (8 * 0) = σ.1 8 := funext fun j => if_neg (by omega)
    rw [this, pF_id]
  rw [e] at h
  exact h
end WAYS
