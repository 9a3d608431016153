/-! lowest terms -/
section TERM
variable {Ca : pp_M → pp_M → Prop} {σ μ ν : pp_M}
theorem lI_ndiv {a b : Nat} (ha : a < 4611686018427387904) (hb : b < 4611686018427387904) : lI (a : Int) / lI (b : Int) = lI ((a / b : Nat) : Int) := by
  have h := Nat.div_le_self a b
  have e : Int.tdiv (a : Int) (b : Int) = ((a / b : Nat) : Int) := (Int.ofNat_tdiv a b).symm
  generalize a / b = q at h e ⊢
  apply Int64.toInt_inj.mp
  rw [Int64.toInt_div, lI_toInt (by omega) (by omega), lI_toInt (by omega) (by omega), lI_toInt (by omega) (by omega), e]
  exact Int.bmod_eq_of_le (by omega) (by omega)
theorem lI_nmod {a b : Nat} (ha : a < 4611686018427387904) (hb : b < 4611686018427387904) : lI (a : Int) - lI (a : Int) / lI (b : Int) * lI (b : Int) = lI ((a % b : Nat) : Int) := by
  rw [lI_ndiv ha hb, lI_mul, lI_sub]
  congr 1
  have h := congrArg (fun n : Nat => (n : Int)) (Nat.div_add_mod a b)
  simp only [Int.natCast_add, Int.natCast_mul] at h
  rw [Int.mul_comm] at h
  omega
theorem lI_eq0 {a : Nat} (ha : a < 4611686018427387904) : lI (a : Int) = (0 : Int64) ↔ a = 0 := by
  refine ⟨fun h => ?_, fun h => by rw [h]; rfl⟩
  have := congrArg Int64.toInt h
  rw [lI_toInt (by omega) (by omega), show (0 : Int64).toInt = 0 from rfl] at this
  omega
theorem half_mod {b r m : Nat} (hr : 0 < r) (hrb : r < b) (hb : b < 2 ^ (m + 1)) : b % r < 2 ^ m := by
  rw [Nat.pow_succ] at hb
  have h1 := Nat.mod_lt b hr
  by_cases c : 2 * r ≤ b
  · omega
  · rw [Nat.mod_eq_sub_mod (by omega), Nat.mod_eq_of_lt (by omega)]
    omega
theorem gcd_step (a b : Nat) : Nat.gcd a b = Nat.gcd b (a % b) := by
  rw [Nat.gcd_comm a b, Nat.gcd_rec b a, Nat.gcd_comm]
theorem sd_end (n : Nat) (a : Int64) (s : Int32) : f_X8_sharedDivisor_3 (n + 1) σ a (lI ((0 : Nat) : Int)) s = some (a, σ) := by
  show f_X8_sharedDivisor_3_B (f_X8_sharedDivisor_3 n) _ _ _ _ = _
  unfold f_X8_sharedDivisor_3_B
  split
  · rw [if_pos (show lI ((0 : Nat) : Int) = (0 : Int64) from rfl)]
  · rfl
theorem sd_step {a b s : Nat} (n : Nat) (ha : a < 4611686018427387904) (hb : b < 4611686018427387904) (h0 : b ≠ 0) (hs : s < 200) : f_X8_sharedDivisor_3 (n + 1) σ (lI (a : Int)) (lI (b : Int)) (nI s) = f_X8_sharedDivisor_3 n σ (lI (b : Int)) (lI ((a % b : Nat) : Int)) (nI (s + 1)) := by
  show f_X8_sharedDivisor_3_B (f_X8_sharedDivisor_3 n) _ _ _ _ = _
  unfold f_X8_sharedDivisor_3_B
  have n0 : ¬ lI (b : Int) = (0 : Int64) := fun q => h0 ((lI_eq0 hb).mp q)
  rw [if_pos (show nI s < (200 : Int32) from nI_lt (b := 200) hs (by omega)), if_neg n0, if_pos n0, lI_nmod ha hb, nI_1]
theorem k_sd : ∀ (m n s a b : Nat), b < 2 ^ m → a < 4611686018427387904 → b < 4611686018427387904 → s + 2 * m < 200 → 2 * m < n → f_X8_sharedDivisor_3 n σ (lI (a : Int)) (lI (b : Int)) (nI s) = some (lI ((Nat.gcd a b : Nat) : Int), σ)
  | 0, n, s, a, b, h1, _, _, _, hn => by
    have hb : b = 0 := by rw [Nat.pow_zero] at h1; omega
    obtain ⟨n', rfl⟩ : ∃ n', n = n' + 1 := ⟨n - 1, by omega⟩
    rw [hb, sd_end, Nat.gcd_zero_right]
  | m + 1, n, s, a, b, h1, ha, hb, hs, hn => by
    obtain ⟨n', rfl⟩ : ∃ n', n = n' + 1 + 1 := ⟨n - 2, by omega⟩
    by_cases h0 : b = 0
    · rw [h0, sd_end, Nat.gcd_zero_right]
    · rw [sd_step _ ha hb h0 (by omega), gcd_step]
      have hr := Nat.mod_lt a (Nat.pos_of_ne_zero h0)
      by_cases hr0 : a % b = 0
      · rw [hr0, sd_end, Nat.gcd_zero_right]
      · rw [sd_step _ hb (by omega) hr0 (by omega), gcd_step]
        have h2 := half_mod (Nat.pos_of_ne_zero hr0) hr h1
        have h3 := Nat.mod_lt b (Nat.pos_of_ne_zero hr0)
        exact k_sd m n' (s + 1 + 1) (a % b) (b % (a % b)) h2 (by omega) (by omega) (by omega) (by omega)
/-- a FRACTION's part in lowest terms -/
def lowI (z : Int) (b : Nat) (w : Int32) : Int64 := if w = 0 then lI (z.tdiv (Nat.gcd z.natAbs b : Nat)) else lI ((b / Nat.gcd z.natAbs b : Nat) : Int)
theorem lowI_sc (z : Int) (b s : Nat) (w : Int32) (hs : 0 < s) : lowI (z * s) (b * s) w = lowI z b w := by
  unfold lowI
  rw [Int.natAbs_mul, Int.natAbs_natCast, Nat.gcd_mul_right, Nat.mul_div_mul_right _ _ hs, Int.natCast_mul, Int.mul_comm z, Int.mul_comm _ (s : Int), Int.mul_tdiv_mul_of_pos _ _ (by omega)]
theorem lI_neg (z : Int) : - lI z = lI (-z) := (Int64.ofInt_neg z).symm
theorem lI_abs {z : Int} (h1 : -4611686018427387904 < z) (h2 : z < 4611686018427387904) : (if 0 < lI z then lI z else - lI z) = lI (z.natAbs : Int) := by
  by_cases c : 0 < z
  · rw [if_pos (by rw [q_lt64, lI_toInt (by omega) (by omega)]; exact c)]; congr 1; omega
  · rw [if_neg (by rw [q_lt64, lI_toInt (by omega) (by omega)]; exact c), lI_neg]; congr 1; omega
theorem lI_abs' {z : Int} (h1 : -4611686018427387904 < z) (h2 : z < 4611686018427387904) : (if lI z < 0 then - lI z else lI z) = lI (z.natAbs : Int) := by
  by_cases c : z < 0
  · rw [if_pos (by rw [q_lt64, lI_toInt (by omega) (by omega)]; exact c), lI_neg]; congr 1; omega
  · rw [if_neg (by rw [q_lt64, lI_toInt (by omega) (by omega)]; exact c)]; congr 1; omega
theorem lI_tdiv {z : Int} {g : Nat} (h1 : -4611686018427387904 < z) (h2 : z < 4611686018427387904) (hg : g < 4611686018427387904) : lI z / lI (g : Int) = lI (z.tdiv g) := by
  have h := Int.natAbs_tdiv_le_natAbs z g
  apply Int64.toInt_inj.mp
  rw [Int64.toInt_div, lI_toInt (by omega) (by omega), lI_toInt (by omega) (by omega), lI_toInt (by omega) (by omega)]
  exact Int.bmod_eq_of_le (by omega) (by omega)
theorem k_term {z : Int} {b : Nat} (w : Int32) (h1 : -4611686018427387904 < z) (h2 : z < 4611686018427387904) (hb : 0 < b) (hb2 : b < 4611686018427387904) : f_X8_term σ (lI z) (lI (b : Int)) w = some (lowI z b w, σ) := by
  have hg : Nat.gcd z.natAbs b ≠ 0 := fun q => by have := Nat.gcd_pos_of_pos_right z.natAbs hb; omega
  have hgb : Nat.gcd z.natAbs b ≤ b := Nat.gcd_le_right _ hb
  unfold f_X8_term f_X8_sharedDivisor
  rw [lI_abs h1 h2, show (0 : Int32) = nI 0 from rfl, k_sd 62 100000 0 z.natAbs b (by omega) (by omega) hb2 (by omega) (by omega)]
  have n0 : ¬ lI ((Nat.gcd z.natAbs b : Nat) : Int) = (0 : Int64) := fun q => hg ((lI_eq0 (by omega)).mp q)
  simp only [Option.bind_some, if_neg n0, if_pos n0]
  unfold lowI
  rw [lI_tdiv h1 h2 (by omega), lI_ndiv hb2 (by omega)]
  by_cases c : w = 0
  · rw [if_pos c, if_pos (show w = nI 0 from c)]
  · rw [if_neg c, if_neg (show ¬ w = nI 0 from c)]
theorem lw_end (n : Nat) {g : Nat} (a0 a2 : Int64) (w : Int32) (hg : g < 4611686018427387904) (h0 : g ≠ 0) : f_X9_lowest_17 (n + 1) μ a0 a2 w (lI (g : Int)) (lI ((0 : Nat) : Int)) = some (if w = 0 then a0 / lI (g : Int) else a2 / lI (g : Int), μ) := by
  show f_X9_lowest_17_B (f_X9_lowest_17 n) _ _ _ _ _ _ = _
  unfold f_X9_lowest_17_B
  have n0 : ¬ lI (g : Int) = (0 : Int64) := fun q => h0 ((lI_eq0 hg).mp q)
  rw [if_pos (show lI ((0 : Nat) : Int) = (0 : Int64) from rfl), if_pos n0, if_pos n0]
  split <;> rfl
theorem lw_step {a b : Nat} (n : Nat) (a0 a2 : Int64) (w : Int32) (ha : a < 4611686018427387904) (hb : b < 4611686018427387904) (h0 : b ≠ 0) : f_X9_lowest_17 (n + 1) μ a0 a2 w (lI (a : Int)) (lI (b : Int)) = f_X9_lowest_17 n μ a0 a2 w (lI (b : Int)) (lI ((a % b : Nat) : Int)) := by
  show f_X9_lowest_17_B (f_X9_lowest_17 n) _ _ _ _ _ _ = _
  unfold f_X9_lowest_17_B
  have n0 : ¬ lI (b : Int) = (0 : Int64) := fun q => h0 ((lI_eq0 hb).mp q)
  rw [if_neg n0, if_pos n0, lI_nmod ha hb]
theorem m_lw (a0 a2 : Int64) (w : Int32) : ∀ (m n a b : Nat), b < 2 ^ m → a < 4611686018427387904 → b < 4611686018427387904 → 2 * m < n → Nat.gcd a b ≠ 0 → f_X9_lowest_17 n μ a0 a2 w (lI (a : Int)) (lI (b : Int)) = some (if w = 0 then a0 / lI ((Nat.gcd a b : Nat) : Int) else a2 / lI ((Nat.gcd a b : Nat) : Int), μ)
  | 0, n, a, b, h1, ha, _, hn, hg => by
    have hb : b = 0 := by rw [Nat.pow_zero] at h1; omega
    obtain ⟨n', rfl⟩ : ∃ n', n = n' + 1 := ⟨n - 1, by omega⟩
    rw [hb, Nat.gcd_zero_right] at hg ⊢
    exact lw_end _ _ _ _ ha hg
  | m + 1, n, a, b, h1, ha, hb, hn, hg => by
    obtain ⟨n', rfl⟩ : ∃ n', n = n' + 1 + 1 := ⟨n - 2, by omega⟩
    by_cases h0 : b = 0
    · rw [h0, Nat.gcd_zero_right] at hg ⊢
      exact lw_end _ _ _ _ ha hg
    · rw [gcd_step] at hg ⊢
      rw [lw_step _ _ _ _ ha hb h0]
      have hr := Nat.mod_lt a (Nat.pos_of_ne_zero h0)
      by_cases hr0 : a % b = 0
      · rw [hr0, Nat.gcd_zero_right] at hg ⊢
        exact lw_end _ _ _ _ hb hg
      · rw [gcd_step] at hg ⊢
        rw [lw_step _ _ _ _ hb (by omega) hr0]
        have h2 := half_mod (Nat.pos_of_ne_zero hr0) hr h1
        have h3 := Nat.mod_lt b (Nat.pos_of_ne_zero hr0)
        exact m_lw a0 a2 w m n' (a % b) (b % (a % b)) h2 (by omega) (by omega) (by omega) hg
theorem m_lowest {z : Int} {b : Nat} (w : Int32) (h1 : -4611686018427387904 < z) (h2 : z < 4611686018427387904) (hb : 0 < b) (hb2 : b < 4611686018427387904) : f_X9_lowest μ (lI z) (lI (b : Int)) w = some (lowI z b w, μ) := by
  have hg : Nat.gcd z.natAbs b ≠ 0 := fun q => by have := Nat.gcd_pos_of_pos_right z.natAbs hb; omega
  have hgb : Nat.gcd z.natAbs b ≤ b := Nat.gcd_le_right _ hb
  have key : f_X9_lowest μ (lI z) (lI (b : Int)) w = f_X9_lowest_12 μ (lI z) (lI (b : Int)) w (if lI z < 0 then - lI z else lI z) := by
    unfold f_X9_lowest
    split <;> rfl
  rw [key, lI_abs' h1 h2]
  unfold f_X9_lowest_12
  rw [m_lw _ _ _ 62 100000 z.natAbs b (by omega) (by omega) hb2 (by omega) hg, lI_tdiv h1 h2 (by omega), lI_ndiv hb2 (by omega)]
  rfl
/-- in the class's units, of a mean ahead of n farms -/
theorem k_termU {z : Int} {n : Nat} (w : Int32) (hn : n ≤ 7) (h1 : -4611686018427387904 < z * 16 ^ (7 - n)) (h2 : z * 16 ^ (7 - n) < 4611686018427387904) : f_X8_term σ (lI (z * 16 ^ (7 - n))) (268435456 : Int64) w = some (lowI z (16 ^ n) w, σ) := by
  have e : (268435456 : Int64) = lI ((268435456 : Nat) : Int) := rfl
  rw [e, k_term w h1 h2 (by omega) (by omega)]
  have e2 : (268435456 : Nat) = 16 ^ n * 16 ^ (7 - n) := by rw [← Nat.pow_add, show n + (7 - n) = 7 by omega]
  rw [e2]
  have e3 : (16 : Int) ^ (7 - n) = ((16 ^ (7 - n) : Nat) : Int) := by rw [Int.natCast_pow]; rfl
  rw [e3, lowI_sc _ _ _ _ (Nat.pow_pos (by omega))]
theorem p16_le {n : Nat} (h : n ≤ 7) : (0 : Nat) < 16 ^ n ∧ (16 : Nat) ^ n ≤ 268435456 := ⟨Nat.pow_pos (by omega), Nat.pow_le_pow_right (n := 16) (by omega) h⟩
theorem m_lowU {z : Int} {n : Nat} (w : Int32) (hn : n ≤ 7) (h1 : -4611686018427387904 < z) (h2 : z < 4611686018427387904) : f_X9_lowest μ (lI z) (lI (16 ^ n)) w = some (lowI z (16 ^ n) w, μ) := by
  have e3 : (16 : Int) ^ n = ((16 ^ n : Nat) : Int) := by rw [Int.natCast_pow]; rfl
  have := p16_le hn
  rw [e3, m_lowest w h1 h2 this.1 (by omega)]
end TERM
