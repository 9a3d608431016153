/-! the value of a thing along a list of farms -/
section VALUE
variable {Ca : pp_M → pp_M → Prop} {σ μ : pp_M}
def prI (μ : pp_M) (t l : Nat) : Int := (μ.1 44 (3 * t + l)).toInt
def csI (μ : pp_M) (t : Nat) : Int := (μ.1 41 t).toInt - (μ.1 43 t).toInt
/-- what asking level l brings: ahead of n farms, W what k things are worth there -/
def avI (μ : pp_M) (W : Nat → Int) (n f t k l : Nat) : Int := if l < 3 then chI μ f t l * (prI μ t l * 16 ^ n + W (k - 1)) + (16 - chI μ f t l) * W k else 16 * W k
def stA (A : Nat → Int) (l : Nat) (b : Int × Nat) : Int × Nat := if A l < b.1 then b else (A l, l)
def bestA (A : Nat → Int) : Int × Nat := stA A 0 (stA A 1 (stA A 2 (A 3, 3)))
def stB (A : Nat → Int) (l : Nat) (b : Int × Nat) : Int × Nat := if b.1 < A l then (A l, l) else b
theorem bestA_eq (A : Nat → Int) : stB A 3 (stB A 2 (stB A 1 (A 0, 0))) = bestA A := by
  unfold bestA stA stB
  generalize A 0 = a
  generalize A 1 = b
  generalize A 2 = c
  generalize A 3 = d
  by_cases h1 : a < b <;> by_cases h2 : a < c <;> by_cases h3 : a < d <;> by_cases h4 : b < c <;> by_cases h5 : b < d <;> by_cases h6 : c < d <;> simp only [h1, h2, h3, h4, h5, h6, if_true, if_false] <;> first | rfl | (exfalso; omega)
theorem stA_le (A : Nat → Int) (l : Nat) (b : Int × Nat) : b.1 ≤ (stA A l b).1 ∧ A l ≤ (stA A l b).1 := by
  unfold stA
  by_cases h : A l < b.1
  · rw [if_pos h]; exact ⟨Int.le_refl _, Int.le_of_lt h⟩
  · rw [if_neg h]; exact ⟨by show b.1 ≤ A l; omega, Int.le_refl _⟩
theorem stA_ub {A : Nat → Int} {l : Nat} {b : Int × Nat} {u : Int} (h1 : b.1 ≤ u) (h2 : A l ≤ u) : (stA A l b).1 ≤ u := by
  unfold stA
  by_cases h : A l < b.1
  · rw [if_pos h]; exact h1
  · rw [if_neg h]; exact h2
theorem bestA_lb (A : Nat → Int) : A 3 ≤ (bestA A).1 := Int.le_trans (stA_le A 2 (A 3, 3)).1 (Int.le_trans (stA_le A 1 _).1 (stA_le A 0 _).1)
theorem bestA_ub {A : Nat → Int} {u : Int} (h : ∀ l, l < 4 → A l ≤ u) : (bestA A).1 ≤ u := stA_ub (stA_ub (stA_ub (h 3 (by omega)) (h 2 (by omega))) (h 1 (by omega))) (h 0 (by omega))
theorem bestA_lv (A : Nat → Int) : (bestA A).2 < 4 ∧ A (bestA A).2 = (bestA A).1 := by
  have h : ∀ l b, l < 4 → b.2 < 4 ∧ A b.2 = b.1 → (stA A l b).2 < 4 ∧ A (stA A l b).2 = (stA A l b).1 := fun l b hl hb => by
    unfold stA
    by_cases h : A l < b.1
    · rw [if_pos h]; exact hb
    · rw [if_neg h]; exact ⟨hl, rfl⟩
  exact h 0 _ (by omega) (h 1 _ (by omega) (h 2 _ (by omega) ⟨by show 3 < 4; omega, rfl⟩))
/-- in sixteenths to the length -/
def wv (μ : pp_M) (t : Nat) : List Nat → Nat → Int
  | [], k => k * csI μ t
  | _ :: _, 0 => 0
  | f :: fs, k + 1 => (bestA (avI μ (wv μ t fs) fs.length f t (k + 1))).1
def lv (μ : pp_M) (t : Nat) : List Nat → Nat → Nat
  | [], _ => 0
  | f :: fs, k => (bestA (avI μ (wv μ t fs) fs.length f t k)).2
theorem av_aux {c x P K w1 w2 : Int} (hc : 0 ≤ c ∧ c ≤ 16) (hx : 0 ≤ x ∧ x ≤ 99 * P) (h1 : -(99 * K) ≤ w1 ∧ w1 ≤ 99 * K) (h2 : -(99 * (K + P)) ≤ w2 ∧ w2 ≤ 99 * (K + P)) : -(99 * (16 * (K + P))) ≤ c * (x + w1) + (16 - c) * w2 ∧ c * (x + w1) + (16 - c) * w2 ≤ 99 * (16 * (K + P)) := by
  have : c = 0 ∨ c = 1 ∨ c = 2 ∨ c = 3 ∨ c = 4 ∨ c = 5 ∨ c = 6 ∨ c = 7 ∨ c = 8 ∨ c = 9 ∨ c = 10 ∨ c = 11 ∨ c = 12 ∨ c = 13 ∨ c = 14 ∨ c = 15 ∨ c = 16 := by omega
  rcases this with rfl | rfl | rfl | rfl | rfl | rfl | rfl | rfl | rfl | rfl | rfl | rfl | rfl | rfl | rfl | rfl | rfl <;> constructor <;> omega
theorem av_bd (hI : Inv μ) {f t k l n : Nat} (hf : f < 8) (ht : t < 6) (W : Nat → Int) (hW : ∀ k : Nat, -(99 * ((k : Int) * 16 ^ n)) ≤ W k ∧ W k ≤ 99 * ((k : Int) * 16 ^ n)) : -(99 * (((k + 1 : Nat) : Int) * 16 ^ (n + 1))) ≤ avI μ W n f t (k + 1) l ∧ avI μ W n f t (k + 1) l ≤ 99 * (((k + 1 : Nat) : Int) * 16 ^ (n + 1)) := by
  have e : ((k + 1 : Nat) : Int) * 16 ^ (n + 1) = 16 * ((k : Int) * 16 ^ n + 16 ^ n) := by
    rw [Int.pow_succ, Int.natCast_add, Int.mul_comm (16 ^ n) 16, ← Int.mul_assoc, Int.mul_comm _ 16, Int.mul_assoc, Int.add_mul]
    simp
  have e2 : ((k + 1 : Nat) : Int) * 16 ^ n = (k : Int) * 16 ^ n + 16 ^ n := by
    rw [Int.natCast_add, Int.add_mul]
    simp
  have h2 := hW (k + 1)
  have h1 := hW k
  rw [e2] at h2
  rw [e]
  unfold avI
  by_cases c : l < 3
  · rw [if_pos c, Nat.add_sub_cancel]
    have hp := hI.2.1 (3 * t + l) (by omega)
    have hpow : (0 : Int) ≤ 16 ^ n := Int.pow_nonneg (by decide)
    refine av_aux (ch_bd hI hf ht c) ⟨Int.mul_nonneg hp.1 hpow, Int.mul_le_mul_of_nonneg_right hp.2 hpow⟩ h1 h2
  · rw [if_neg c]
    constructor <;> omega
theorem wv_bd (hI : Inv μ) {t : Nat} (ht : t < 6) : ∀ (fs : List Nat), (∀ f, f ∈ fs → f < 8) → ∀ k : Nat, -(99 * ((k : Int) * 16 ^ fs.length)) ≤ wv μ t fs k ∧ wv μ t fs k ≤ 99 * ((k : Int) * 16 ^ fs.length)
  | [], _, k => by
    have h := hI.1 t ht
    have h1 := h.1
    have h3 := h.2.2
    unfold bd at h1 h3
    show -(99 * ((k : Int) * 1)) ≤ (k : Int) * csI μ t ∧ (k : Int) * csI μ t ≤ 99 * ((k : Int) * 1)
    rw [Int.mul_one]
    have a1 : -99 ≤ csI μ t := by unfold csI; omega
    have a2 : csI μ t ≤ 99 := by unfold csI; omega
    have b1 := Int.mul_le_mul_of_nonneg_left a1 (show (0 : Int) ≤ (k : Int) by omega)
    have b2 := Int.mul_le_mul_of_nonneg_left a2 (show (0 : Int) ≤ (k : Int) by omega)
    constructor <;> omega
  | f :: fs, hf, 0 => by
    show -(99 * (((0 : Nat) : Int) * _)) ≤ (0 : Int) ∧ (0 : Int) ≤ 99 * (((0 : Nat) : Int) * _)
    rw [Int.natCast_zero, Int.zero_mul]
    decide
  | f :: fs, hf, k + 1 => by
    have ih := wv_bd hI ht fs (fun g hg => hf g (List.mem_cons_of_mem _ hg))
    have hb := fun l => av_bd hI (f := f) (t := t) (k := k) (l := l) (n := fs.length) (hf f (List.mem_cons_self ..)) ht (wv μ t fs) ih
    exact ⟨Int.le_trans (hb 3).1 (bestA_lb _), bestA_ub (fun l _ => (hb l).2)⟩
end VALUE
