/-! count -/
section COUNT
variable {Ca : pp_M → pp_M → Prop} {σ μ ν : pp_M}
def pR (r : Nat → Int32) (k : Nat) : Nat := if 0 < r k then 1 else 0
def sB (p : Nat → Nat) (a : Nat) : Nat → Nat
  | 0 => 0
  | n + 1 => sB p a n + p (8 * a + n)
def sA (p : Nat → Nat) : Nat → Nat
  | 0 => 0
  | a + 1 => sA p a + sB p a a
def sMd (p : Nat → Nat) : Nat → Nat
  | 0 => 0
  | k + 1 => sMd p k + if k / 8 < k % 8 then p k else 0
def sU (p : Nat → Nat) (a : Nat) : Nat → Nat
  | 0 => 0
  | b + 1 => sU p a b + if a < b then p (8 * a + b) else 0
theorem sMd_row (p : Nat → Nat) (a : Nat) : ∀ b, b ≤ 8 → sMd p (8 * a + b) = sMd p (8 * a) + sU p a b
  | 0, _ => rfl
  | b + 1, hb => by
    show sMd p (8 * a + b) + (if (8 * a + b) / 8 < (8 * a + b) % 8 then p (8 * a + b) else 0) = sMd p (8 * a) + (sU p a b + if a < b then p (8 * a + b) else 0)
    rw [sMd_row p a b (by omega), show (8 * a + b) / 8 = a by omega, show (8 * a + b) % 8 = b by omega, Nat.add_assoc]
theorem sA_8 (p : Nat → Nat) : sA p 8 = 0 + (0 + p 8) + (0 + p 16 + p 17) + (0 + p 24 + p 25 + p 26) + (0 + p 32 + p 33 + p 34 + p 35) + (0 + p 40 + p 41 + p 42 + p 43 + p 44) + (0 + p 48 + p 49 + p 50 + p 51 + p 52 + p 53) + (0 + p 56 + p 57 + p 58 + p 59 + p 60 + p 61 + p 62) := rfl
theorem sA_sMd {p : Nat → Nat} (h : ∀ a b, a < 8 → b < 8 → p (8 * a + b) = p (8 * b + a)) : sA p 8 = sMd p 64 := by
  rw [sA_8]
  have r0 : sMd p 8 = sMd p 0 + sU p 0 8 := sMd_row p 0 8 (by omega)
  have u0 : sU p 0 8 = 0 + p 1 + p 2 + p 3 + p 4 + p 5 + p 6 + p 7 := rfl
  have r1 : sMd p 16 = sMd p 8 + sU p 1 8 := sMd_row p 1 8 (by omega)
  have u1 : sU p 1 8 = 0 + p 10 + p 11 + p 12 + p 13 + p 14 + p 15 := rfl
  have r2 : sMd p 24 = sMd p 16 + sU p 2 8 := sMd_row p 2 8 (by omega)
  have u2 : sU p 2 8 = 0 + p 19 + p 20 + p 21 + p 22 + p 23 := rfl
  have r3 : sMd p 32 = sMd p 24 + sU p 3 8 := sMd_row p 3 8 (by omega)
  have u3 : sU p 3 8 = 0 + p 28 + p 29 + p 30 + p 31 := rfl
  have r4 : sMd p 40 = sMd p 32 + sU p 4 8 := sMd_row p 4 8 (by omega)
  have u4 : sU p 4 8 = 0 + p 37 + p 38 + p 39 := rfl
  have r5 : sMd p 48 = sMd p 40 + sU p 5 8 := sMd_row p 5 8 (by omega)
  have u5 : sU p 5 8 = 0 + p 46 + p 47 := rfl
  have r6 : sMd p 56 = sMd p 48 + sU p 6 8 := sMd_row p 6 8 (by omega)
  have u6 : sU p 6 8 = 0 + p 55 := rfl
  have r7 : sMd p 64 = sMd p 56 + sU p 7 8 := sMd_row p 7 8 (by omega)
  have u7 : sU p 7 8 = 0 := rfl
  have z : sMd p 0 = 0 := rfl
  have h0 : p 8 = p 1 := h 1 0 (by omega) (by omega)
  have h1 : p 16 = p 2 := h 2 0 (by omega) (by omega)
  have h2 : p 17 = p 10 := h 2 1 (by omega) (by omega)
  have h3 : p 24 = p 3 := h 3 0 (by omega) (by omega)
  have h4 : p 25 = p 11 := h 3 1 (by omega) (by omega)
  have h5 : p 26 = p 19 := h 3 2 (by omega) (by omega)
  have h6 : p 32 = p 4 := h 4 0 (by omega) (by omega)
  have h7 : p 33 = p 12 := h 4 1 (by omega) (by omega)
  have h8 : p 34 = p 20 := h 4 2 (by omega) (by omega)
  have h9 : p 35 = p 28 := h 4 3 (by omega) (by omega)
  have h10 : p 40 = p 5 := h 5 0 (by omega) (by omega)
  have h11 : p 41 = p 13 := h 5 1 (by omega) (by omega)
  have h12 : p 42 = p 21 := h 5 2 (by omega) (by omega)
  have h13 : p 43 = p 29 := h 5 3 (by omega) (by omega)
  have h14 : p 44 = p 37 := h 5 4 (by omega) (by omega)
  have h15 : p 48 = p 6 := h 6 0 (by omega) (by omega)
  have h16 : p 49 = p 14 := h 6 1 (by omega) (by omega)
  have h17 : p 50 = p 22 := h 6 2 (by omega) (by omega)
  have h18 : p 51 = p 30 := h 6 3 (by omega) (by omega)
  have h19 : p 52 = p 38 := h 6 4 (by omega) (by omega)
  have h20 : p 53 = p 46 := h 6 5 (by omega) (by omega)
  have h21 : p 56 = p 7 := h 7 0 (by omega) (by omega)
  have h22 : p 57 = p 15 := h 7 1 (by omega) (by omega)
  have h23 : p 58 = p 23 := h 7 2 (by omega) (by omega)
  have h24 : p 59 = p 31 := h 7 3 (by omega) (by omega)
  have h25 : p 60 = p 39 := h 7 4 (by omega) (by omega)
  have h26 : p 61 = p 47 := h 7 5 (by omega) (by omega)
  have h27 : p 62 = p 55 := h 7 6 (by omega) (by omega)
  omega
theorem k_cr12 (k4 : pp_M → Int32 → Int32 → Option (Int32 × pp_M)) {p : Nat → Nat} (hp : ∀ k, k < 64 → (if 0 < σ.1 6 k then (1 : Int32) else 0) = nI (p k)) {a : Nat} (ha : a < 8) (c : Nat) : ∀ d b n, b + d = a → d < n → f_X2_countRoads_12 k4 n σ (nI (c + sB p a b)) (nI a) (nI b) = k4 σ (nI (c + sB p a a)) (nI (a + 1)) := by
  intro d
  induction d with
  | zero =>
    intro b n hb hn
    obtain ⟨n, rfl⟩ : ∃ n', n = n' + 1 := ⟨n - 1, by omega⟩
    have : b = a := by omega
    subst this
    show f_X2_countRoads_12_B k4 (f_X2_countRoads_12 k4 n) _ _ _ _ = _
    unfold f_X2_countRoads_12_B
    rw [if_neg (q_nlt b), nI_1]
  | succ d ih =>
    intro b n hb hn
    obtain ⟨n, rfl⟩ : ∃ n', n = n' + 1 := ⟨n - 1, by omega⟩
    show f_X2_countRoads_12_B k4 (f_X2_countRoads_12 k4 n) _ _ _ _ = _
    unfold f_X2_countRoads_12_B f_X2_countRoads_34
    have i1 : pp_ix (nI a) 8 := q_ix (by omega) (by omega)
    have i2 : pp_ix (nI b) 8 := q_ix (by omega) (by omega)
    have e := hp (8 * a + b) (by omega)
    have ih' := ih (b + 1) n (by omega) (by omega)
    rw [show sB p a (b + 1) = sB p a b + p (8 * a + b) from rfl, ← Nat.add_assoc, ← nI_add] at ih'
    rw [if_pos (nI_lt (by omega) (by omega)), if_pos i1, if_pos i2, nI_1 b]
    simp only [q_cl (k := a) (show a < 2 ^ 31 by omega), q_cl (k := b) (show b < 2 ^ 31 by omega), show a * 8 + b = 8 * a + b by omega]
    by_cases c2 : 0 < σ.1 6 (8 * a + b)
    · rw [if_pos c2] at e
      rw [← e] at ih'
      rw [if_pos c2]
      exact ih'
    · rw [if_neg c2] at e
      rw [← e] at ih'
      rw [if_neg c2]
      exact ih'
theorem k_cr4 {p : Nat → Nat} (hp : ∀ k, k < 64 → (if 0 < σ.1 6 k then (1 : Int32) else 0) = nI (p k)) : ∀ d a n, a + d = 8 → d < n → f_X2_countRoads_4 n σ (nI (sA p a)) (nI a) = some (nI (sA p 8), σ) := by
  intro d
  induction d with
  | zero =>
    intro a n ha hn
    obtain ⟨n, rfl⟩ : ∃ n', n = n' + 1 := ⟨n - 1, by omega⟩
    have : a = 8 := by omega
    subst this
    show f_X2_countRoads_4_B (f_X2_countRoads_4 n) _ _ _ = _
    unfold f_X2_countRoads_4_B
    rw [if_neg (show ¬ nI 8 < (8 : Int32) from q_nlt 8)]
  | succ d ih =>
    intro a n ha hn
    obtain ⟨n, rfl⟩ : ∃ n', n = n' + 1 := ⟨n - 1, by omega⟩
    show f_X2_countRoads_4_B (f_X2_countRoads_4 n) _ _ _ = _
    unfold f_X2_countRoads_4_B
    rw [if_pos (show nI a < (8 : Int32) from nI_lt (b := 8) (by omega) (by omega))]
    have := k_cr12 (f_X2_countRoads_4 n) hp (show a < 8 by omega) (sA p a) a 0 100000 (by omega) (by omega)
    rw [show f_X2_countRoads_12 (f_X2_countRoads_4 n) 100000 σ (nI (sA p a)) (nI a) 0 = _ from this]
    exact ih (a + 1) n (by omega) (by omega)
theorem m_cn9 {p : Nat → Nat} (hp : ∀ k, k < 64 → (if 0 < ν.1 45 k then (1 : Int32) else 0) = nI (p k)) : ∀ d k n, k + d = 64 → d < n → f_X9_countNow_9 n ν (nI (sMd p k)) (nI k) = some (nI (sMd p 64), ν) := by
  intro d
  induction d with
  | zero =>
    intro k n hk hn
    obtain ⟨n, rfl⟩ : ∃ n', n = n' + 1 := ⟨n - 1, by omega⟩
    have : k = 64 := by omega
    subst this
    show f_X9_countNow_9_B (f_X9_countNow_9 n) _ _ _ = _
    unfold f_X9_countNow_9_B
    rw [if_neg (show ¬ nI 64 < (64 : Int32) from q_nlt 64)]
  | succ d ih =>
    intro k n hk hn
    obtain ⟨n, rfl⟩ : ∃ n', n = n' + 1 := ⟨n - 1, by omega⟩
    have hk64 : k < 64 := by omega
    have ih' := ih (k + 1) n (by omega) (by omega)
    have e := hp k hk64
    have es : sMd p (k + 1) = sMd p k + if k / 8 < k % 8 then p k else 0 := rfl
    show f_X9_countNow_9_B (f_X9_countNow_9 n) _ _ _ = _
    unfold f_X9_countNow_9_B f_X9_countNow_40 f_X9_countNow_41
    have i1 : pp_ix (nI k) 64 := q_ix (by omega) (by omega)
    have d1 : nI k / (8 : Int32) = nI (k / 8) := q_d8 hk64
    have d2 : nI k - nI (k / 8) * (8 : Int32) = nI (k % 8) := by
      have := q_r8 hk64
      rw [d1] at this
      exact this
    rw [if_pos (show nI k < (64 : Int32) from nI_lt (b := 64) hk64 (by omega)), d1, d2, nI_1 k]
    by_cases c : k / 8 < k % 8
    · rw [es, if_pos c, ← nI_add] at ih'
      rw [if_pos (nI_lt c (by omega)), if_pos i1]
      simp only [q_cl (k := k) (show k < 2 ^ 31 by omega)]
      by_cases c2 : 0 < ν.1 45 k
      · rw [if_pos c2] at e
        rw [← e] at ih'
        rw [if_pos c2]
        exact ih'
      · rw [if_neg c2] at e
        rw [← e] at ih'
        rw [if_neg c2]
        exact ih'
    · rw [es, if_neg c, ← nI_add] at ih'
      rw [if_neg (q_nl (by omega) (by omega))]
      exact ih'
def qC (μ : pp_M) (f k : Nat) : Nat := if 0 < chI μ f (k / 3) (k % 3) then 1 else 0
def sQ (μ : pp_M) (f : Nat) : Nat → Nat
  | 0 => 0
  | n + 1 => sQ μ f n + qC μ f n
def sF (μ : pp_M) : Nat → Nat
  | 0 => 0
  | n + 1 => sF μ n + sQ μ (n + 1) 18
theorem ch_pos (hI : Inv μ) {f t l : Nat} (hf : f < 8) (ht : t < 6) (hl : l < 3) : (if (0 : Int32) < nI (chI μ f t l).toNat then (1 : Int32) else 0) = nI (if 0 < chI μ f t l then 1 else 0) := by
  have hb := ch_bd hI hf ht hl
  by_cases c : 0 < chI μ f t l
  · rw [if_pos c, if_pos (show (0 : Int32) < nI (chI μ f t l).toNat from nI_lt (a := 0) (by omega) (by omega))]; rfl
  · rw [if_neg c, if_neg (show ¬ (0 : Int32) < nI (chI μ f t l).toNat from q_nl (a := 0) (b := (chI μ f t l).toNat) (by omega) (by omega) |> fun h => by
      have e : (chI μ f t l).toNat = 0 := by omega
      rw [e]
      decide)]; rfl
theorem k_cc21 (k4 : pp_M → Int32 → Int32 → Option (Int32 × pp_M)) (k12 : pp_M → Int32 → Int32 → Int32 → Option (Int32 × pp_M)) (hB : Base σ μ) (hI : Inv μ) {f t : Nat} (hf : f < 8) (ht : t < 6) (c : Nat) : ∀ d l n, l + d = 3 → d < n → f_X4_countChances_21 k4 k12 n σ (nI (c + sQ μ f (3 * t + l))) (nI f) (nI t) (nI l) = k12 σ (nI (c + sQ μ f (3 * (t + 1)))) (nI f) (nI (t + 1)) := by
  intro d
  induction d with
  | zero =>
    intro l n hl hn
    obtain ⟨n, rfl⟩ : ∃ n', n = n' + 1 := ⟨n - 1, by omega⟩
    have : l = 3 := by omega
    subst this
    show f_X4_countChances_21_B k4 k12 (f_X4_countChances_21 k4 k12 n) _ _ _ _ _ = _
    unfold f_X4_countChances_21_B
    rw [if_neg (show ¬ nI 3 < (3 : Int32) from q_nlt 3), nI_1, show 3 * (t + 1) = 3 * t + 3 by omega]
  | succ d ih =>
    intro l n hl hn
    obtain ⟨n, rfl⟩ : ∃ n', n = n' + 1 := ⟨n - 1, by omega⟩
    have ih' := ih (l + 1) n (by omega) (by omega)
    have es : sQ μ f (3 * t + (l + 1)) = sQ μ f (3 * t + l) + (if 0 < chI μ f t l then 1 else 0) := by
      show sQ μ f (3 * t + l) + qC μ f (3 * t + l) = _
      unfold qC
      rw [show (3 * t + l) / 3 = t by omega, show (3 * t + l) % 3 = l by omega]
    have cp := ch_pos hI hf ht (show l < 3 by omega)
    rw [es, ← Nat.add_assoc, ← nI_add, ← cp] at ih'
    show f_X4_countChances_21_B k4 k12 (f_X4_countChances_21 k4 k12 n) _ _ _ _ _ = _
    unfold f_X4_countChances_21_B f_X4_countChances_44
    rw [if_pos (show nI l < (3 : Int32) from nI_lt (b := 3) (by omega) (by omega)), k_chance hB hI hf ht (show l < 3 by omega), Option.bind_some, nI_1 l]
    by_cases c2 : (0 : Int32) < nI (chI μ f t l).toNat
    · rw [if_pos c2] at ih'
      rw [if_pos c2]
      exact ih'
    · rw [if_neg c2] at ih'
      rw [if_neg c2]
      exact ih'
theorem k_cc12 (k4 : pp_M → Int32 → Int32 → Option (Int32 × pp_M)) (hB : Base σ μ) (hI : Inv μ) {f : Nat} (hf : f < 8) (c : Nat) : ∀ d t n, t + d = 6 → d < n → f_X4_countChances_12 k4 n σ (nI (c + sQ μ f (3 * t))) (nI f) (nI t) = k4 σ (nI (c + sQ μ f 18)) (nI (f + 1)) := by
  intro d
  induction d with
  | zero =>
    intro t n ht hn
    obtain ⟨n, rfl⟩ : ∃ n', n = n' + 1 := ⟨n - 1, by omega⟩
    have : t = 6 := by omega
    subst this
    show f_X4_countChances_12_B k4 (f_X4_countChances_12 k4 n) _ _ _ _ = _
    unfold f_X4_countChances_12_B
    rw [if_neg (show ¬ nI 6 < (6 : Int32) from q_nlt 6), nI_1]
  | succ d ih =>
    intro t n ht hn
    obtain ⟨n, rfl⟩ : ∃ n', n = n' + 1 := ⟨n - 1, by omega⟩
    show f_X4_countChances_12_B k4 (f_X4_countChances_12 k4 n) _ _ _ _ = _
    unfold f_X4_countChances_12_B
    rw [if_pos (show nI t < (6 : Int32) from nI_lt (b := 6) (by omega) (by omega))]
    have := k_cc21 k4 (f_X4_countChances_12 k4 n) hB hI hf (show t < 6 by omega) c 3 0 100000 (by omega) (by omega)
    rw [Nat.add_zero] at this
    rw [show f_X4_countChances_21 k4 (f_X4_countChances_12 k4 n) 100000 σ (nI (c + sQ μ f (3 * t))) (nI f) (nI t) 0 = _ from this]
    exact ih (t + 1) n (by omega) (by omega)
theorem k_cc4 (hB : Base σ μ) (hI : Inv μ) : ∀ d m n, m + d = 7 → d < n → f_X4_countChances_4 n σ (nI (sF μ m)) (nI (m + 1)) = some (nI (sF μ 7), σ) := by
  intro d
  induction d with
  | zero =>
    intro m n hm hn
    obtain ⟨n, rfl⟩ : ∃ n', n = n' + 1 := ⟨n - 1, by omega⟩
    have : m = 7 := by omega
    subst this
    show f_X4_countChances_4_B (f_X4_countChances_4 n) _ _ _ = _
    unfold f_X4_countChances_4_B
    rw [if_pos (show (7 : Int32) < nI 8 from nI_lt (a := 7) (by omega) (by omega))]
  | succ d ih =>
    intro m n hm hn
    obtain ⟨n, rfl⟩ : ∃ n', n = n' + 1 := ⟨n - 1, by omega⟩
    show f_X4_countChances_4_B (f_X4_countChances_4 n) _ _ _ = _
    unfold f_X4_countChances_4_B
    rw [if_neg (show ¬ (7 : Int32) < nI (m + 1) from q_nl (a := 7) (by omega) (by omega))]
    have := k_cc12 (f_X4_countChances_4 n) hB hI (show m + 1 < 8 by omega) (sF μ m) 6 0 100000 (by omega) (by omega)
    rw [show f_X4_countChances_12 (f_X4_countChances_4 n) 100000 σ (nI (sF μ m)) (nI (m + 1)) 0 = _ from this]
    exact ih (m + 1) n (by omega) (by omega)
theorem m_cn63 (k54 : pp_M → Int32 → Int32 → Option (Int32 × pp_M)) (hI : Inv μ) (hν : fr sM μ ν) {f : Nat} (hf : f < 8) (c : Nat) : ∀ d k n, k + d = 18 → d < n → f_X9_countNow_63 k54 n ν (nI (c + sQ μ f k)) (nI f) (nI k) = k54 ν (nI (c + sQ μ f 18)) (nI (f + 1)) := by
  intro d
  induction d with
  | zero =>
    intro k n hk hn
    obtain ⟨n, rfl⟩ : ∃ n', n = n' + 1 := ⟨n - 1, by omega⟩
    have : k = 18 := by omega
    subst this
    show f_X9_countNow_63_B k54 (f_X9_countNow_63 k54 n) _ _ _ _ = _
    unfold f_X9_countNow_63_B
    rw [if_neg (show ¬ nI 18 < (18 : Int32) from q_nlt 18), nI_1]
  | succ d ih =>
    intro k n hk hn
    obtain ⟨n, rfl⟩ : ∃ n', n = n' + 1 := ⟨n - 1, by omega⟩
    have ih' := ih (k + 1) n (by omega) (by omega)
    have es : sQ μ f (k + 1) = sQ μ f k + (if 0 < chI μ f (k / 3) (k % 3) then 1 else 0) := rfl
    have cp := ch_pos hI hf (show k / 3 < 6 by omega) (show k % 3 < 3 by omega)
    rw [es, ← Nat.add_assoc, ← nI_add, ← cp] at ih'
    have d1 : nI k / (3 : Int32) = nI (k / 3) := pk_div (d := 3) (by omega) (by omega) (by omega)
    have d2 : nI k - nI (k / 3) * (3 : Int32) = nI (k % 3) := by
      have := pk_rem (a := k) (d := 3) (by omega) (by omega) (by omega)
      rw [pk_div (by omega) (by omega) (by omega)] at this
      exact this
    show f_X9_countNow_63_B k54 (f_X9_countNow_63 k54 n) _ _ _ _ = _
    unfold f_X9_countNow_63_B f_X9_countNow_92
    rw [if_pos (show nI k < (18 : Int32) from nI_lt (b := 18) (by omega) (by omega)), d1, d2, m_chance (inv_fr hI hν) hf (show k / 3 < 6 by omega) (show k % 3 < 3 by omega), Option.bind_some, nI_1 k, ch_fr hν]
    by_cases c2 : (0 : Int32) < nI (chI μ f (k / 3) (k % 3)).toNat
    · rw [if_pos c2] at ih'
      rw [if_pos c2]
      exact ih'
    · rw [if_neg c2] at ih'
      rw [if_neg c2]
      exact ih'
theorem m_cn54 (hI : Inv μ) (hν : fr sM μ ν) : ∀ d m n, m + d = 7 → d < n → f_X9_countNow_54 n ν (nI (sF μ m)) (nI (m + 1)) = some (nI (sF μ 7), ν) := by
  intro d
  induction d with
  | zero =>
    intro m n hm hn
    obtain ⟨n, rfl⟩ : ∃ n', n = n' + 1 := ⟨n - 1, by omega⟩
    have : m = 7 := by omega
    subst this
    show f_X9_countNow_54_B (f_X9_countNow_54 n) _ _ _ = _
    unfold f_X9_countNow_54_B
    rw [if_pos (show (7 : Int32) < nI 8 from nI_lt (a := 7) (by omega) (by omega))]
  | succ d ih =>
    intro m n hm hn
    obtain ⟨n, rfl⟩ : ∃ n', n = n' + 1 := ⟨n - 1, by omega⟩
    show f_X9_countNow_54_B (f_X9_countNow_54 n) _ _ _ = _
    unfold f_X9_countNow_54_B
    rw [if_neg (show ¬ (7 : Int32) < nI (m + 1) from q_nl (a := 7) (by omega) (by omega))]
    have := m_cn63 (f_X9_countNow_54 n) hI hν (show m + 1 < 8 by omega) (sF μ m) 18 0 100000 (by omega) (by omega)
    rw [show f_X9_countNow_63 (f_X9_countNow_54 n) 100000 ν (nI (sF μ m)) (nI (m + 1)) 0 = _ from this]
    exact ih (m + 1) n (by omega) (by omega)
def cR (μ : pp_M) : Nat := sMd (pR (μ.1 45)) 64
theorem k_countRoads (hB : Base σ μ) (hI : Inv μ) : f_X2_countRoads σ = some (nI (cR μ), σ) := by
  have hp : ∀ k, k < 64 → (if 0 < σ.1 6 k then (1 : Int32) else 0) = nI (pR (μ.1 45) k) := fun k hk => by
    rw [hB.2.2.1 k hk]
    unfold pR
    by_cases c : 0 < μ.1 45 k
    · rw [if_pos c, if_pos c]; rfl
    · rw [if_neg c, if_neg c]; rfl
  have := k_cr4 hp 8 0 100000 (by omega) (by omega)
  unfold f_X2_countRoads cR
  rw [show f_X2_countRoads_4 100000 σ 0 0 = _ from this, sA_sMd (fun a b ha hb => by unfold pR; rw [hI.2.2.1.2 a b ha hb])]
theorem m_countRoads (hν : fr sM μ ν) : f_X9_countNow ν 2 = some (nI (cR μ), ν) := by
  have hp : ∀ k, k < 64 → (if 0 < ν.1 45 k then (1 : Int32) else 0) = nI (pR (μ.1 45) k) := fun k hk => by
    rw [(hν 45 k (by unfold sM; omega)).1]
    unfold pR
    by_cases c : 0 < μ.1 45 k
    · rw [if_pos c, if_pos c]; rfl
    · rw [if_neg c, if_neg c]; rfl
  have := m_cn9 hp 64 0 100000 (by omega) (by omega)
  unfold f_X9_countNow cR
  rw [if_pos rfl]
  exact this
theorem k_countChances (hB : Base σ μ) (hI : Inv μ) : f_X4_countChances σ = some (nI (sF μ 7), σ) := k_cc4 hB hI 7 0 100000 (by omega) (by omega)
theorem m_countChances (hI : Inv μ) (hν : fr sM μ ν) : f_X9_countNow ν 3 = some (nI (sF μ 7), ν) := by
  unfold f_X9_countNow
  rw [if_neg (by decide)]
  exact m_cn54 hI hν 7 0 100000 (by omega) (by omega)
def CT (μ : pp_M) (a : Int32) : Int32 := if a = 0 then μ.1 40 19 else if a = 1 then PWt μ else if a = 2 then nI (cR μ) else if a = 3 then nI (sF μ 7) else if a = 4 then μ.1 40 11 else if a = 5 then μ.1 40 6 else if a = 6 then μ.1 40 7 else if a = 7 then μ.1 40 8 else if a = 8 then μ.1 40 47 else -2
theorem k_count (hB : Base σ μ) (hI : Inv μ) (a : Int32) : f_X8_count σ a = some (CT μ a, σ) := by
  unfold f_X8_count CT
  rw [k_packW hB, k_countRoads hB hI, k_countChances hB hI, Option.bind_some, Option.bind_some, Option.bind_some, hB.2.2.2.2.2.2.2.2.2.1.1, hB.2.2.2.2.2.1.1, hB.2.2.2.2.2.2.2.2.2.2.2.1, hB.2.2.2.2.2.2.2.2.2.2.2.2.1, hB.2.2.2.2.2.2.2.2.2.2.2.2.2, hB.2.2.2.2.2.2.2.2.1]
  repeat' split
  all_goals rfl
theorem m_count (hI : Inv μ) (hν : fr sM μ ν) (a : Int32) : f_X9_count ν a = some (CT μ a, ν) := by
  unfold f_X9_count CT
  rw [m_packWeight, Option.bind_some, show wS (ν.1 54) (ν.1 42) 6 = PWt μ from PWt_fr hν, (hν 40 19 (by unfold sM; omega)).1, (hν 40 11 (by unfold sM; omega)).1, (hν 40 6 (by unfold sM; omega)).1, (hν 40 7 (by unfold sM; omega)).1, (hν 40 8 (by unfold sM; omega)).1, (hν 40 47 (by unfold sM; omega)).1]
  by_cases c2 : a = 2
  · rw [c2, m_countRoads hν]; rfl
  · by_cases c3 : a = 3
    · rw [c3, m_countChances hI hν]; rfl
    · simp only [if_neg c2, if_neg c3]
      repeat' split
      all_goals rfl
theorem h_count (a1 : Int32) (h : Rel Ca σ μ) : ∃ (r : Int32) (σ' μ' : pp_M), f_X8_count σ a1 = some (r, σ') ∧ f_X9_count μ a1 = some (r, μ') ∧ Rel Ca σ' μ' := ⟨_, _, _, k_count h.1 h.2.1 a1, m_count h.2.1 (fr_rf (σ := μ)) a1, h⟩
end COUNT
