/-! loading by what brings most for its weight -/
section LOADS
variable {Ca : pp_M → pp_M → Prop} {σ μ ν : pp_M} {G : Nat → Nat → Int} {W pk tp : Nat → Nat}
def pck (el : Nat → Bool) (B : Nat → Int) (w : Nat → Nat) : Nat → Option Nat
  | 0 => none
  | n + 1 => match pck el B w n with
    | none => if el n = true ∧ 0 < B n then some n else none
    | some j => if el n = true ∧ B j * (w n : Int) < B n * (w j : Int) then some n else some j
def oI : Option Nat → Int32
  | none => -1
  | some j => nI j
def cG (B : Nat → Int) : Option Nat → Int
  | none => 0
  | some j => B j
def cW (w : Nat → Nat) : Option Nat → Nat
  | none => 1
  | some j => w j
theorem pck_ok (el : Nat → Bool) (B : Nat → Int) (w : Nat → Nat) : ∀ n j, (∀ i, i < n → 0 < w i) → pck el B w n = some j → 0 < B j ∧ el j = true ∧ j < n
  | 0, j, _, h => by cases h
  | n + 1, j, hw, h => by
    have hwn := hw n (by omega)
    unfold pck at h
    split at h
    · rename_i hn
      by_cases c : el n = true ∧ 0 < B n
      · rw [if_pos c] at h
        have : n = j := Option.some.inj h
        subst this
        exact ⟨c.2, c.1, by omega⟩
      · rw [if_neg c] at h; cases h
    · rename_i i hn
      have ih := pck_ok el B w n i (fun i hi => hw i (by omega)) hn
      by_cases c : el n = true ∧ B i * (w n : Int) < B n * (w i : Int)
      · rw [if_pos c] at h
        have : n = j := Option.some.inj h
        subst this
        refine ⟨?_, c.1, by omega⟩
        have h1 : 0 < B i * (w n : Int) := Int.mul_pos ih.1 (by omega)
        have h2 : 0 < B n * (w i : Int) := by omega
        exact Classical.byContradiction (fun q => by
          have := Int.mul_nonpos_of_nonpos_of_nonneg (show B n ≤ 0 by omega) (show (0 : Int) ≤ (w i : Int) by omega)
          omega)
      · rw [if_neg c] at h
        have : i = j := Option.some.inj h
        subst this
        exact ⟨ih.1, ih.2.1, by omega⟩
theorem pck_skip {el : Nat → Bool} {B : Nat → Int} {w : Nat → Nat} {n : Nat} (h : ¬ el n = true) : pck el B w (n + 1) = pck el B w n := by
  show (match pck el B w n with
    | none => if el n = true ∧ 0 < B n then some n else none
    | some j => if el n = true ∧ B j * (w n : Int) < B n * (w j : Int) then some n else some j) = _
  cases pck el B w n with
  | none => exact if_neg (fun q => h q.1)
  | some j => exact if_neg (fun q => h q.1)
theorem pck_step {el : Nat → Bool} {B : Nat → Int} {w : Nat → Nat} {n : Nat} (h : el n = true) : pck el B w (n + 1) = if cG B (pck el B w n) * (w n : Int) < B n * (cW w (pck el B w n) : Int) then some n else pck el B w n := by
  show (match pck el B w n with
    | none => if el n = true ∧ 0 < B n then some n else none
    | some j => if el n = true ∧ B j * (w n : Int) < B n * (w j : Int) then some n else some j) = _
  cases pck el B w n with
  | none =>
    show (if el n = true ∧ 0 < B n then some n else none) = if 0 * (w n : Int) < B n * ((1 : Nat) : Int) then some n else none
    rw [Int.zero_mul, Int.natCast_one, Int.mul_one]
    by_cases c : 0 < B n
    · rw [if_pos ⟨h, c⟩, if_pos c]
    · rw [if_neg (fun q => c q.2), if_neg c]
  | some j =>
    show (if el n = true ∧ B j * (w n : Int) < B n * (w j : Int) then some n else some j) = if B j * (w n : Int) < B n * (w j : Int) then some n else some j
    by_cases c : B j * (w n : Int) < B n * (w j : Int)
    · rw [if_pos ⟨h, c⟩, if_pos c]
    · rw [if_neg (fun q => c q.2), if_neg c]
theorem mul_sc {x y s : Int} {a b : Nat} (hs : 0 < s) : x * s * (a : Int) < y * s * (b : Int) ↔ x * (a : Int) < y * (b : Int) := by
  rw [Int.mul_assoc, Int.mul_comm s, ← Int.mul_assoc, Int.mul_assoc y, Int.mul_comm s, ← Int.mul_assoc]
  exact ⟨fun h => Int.lt_of_mul_lt_mul_right h (Int.le_of_lt hs), fun h => Int.mul_lt_mul_of_pos_right h hs⟩
theorem pck_sc {el : Nat → Bool} {B : Nat → Int} {w : Nat → Nat} {s : Int} (hs : 0 < s) : ∀ n, pck el (fun i => B i * s) w n = pck el B w n
  | 0 => rfl
  | n + 1 => by
    have ih := pck_sc (el := el) (B := B) (w := w) hs n
    by_cases h : el n = true
    · rw [pck_step h, pck_step h, ih]
      have e : cG (fun i => B i * s) (pck el B w n) = cG B (pck el B w n) * s := by
        cases pck el B w n with
        | none => exact (Int.zero_mul s).symm
        | some j => rfl
      rw [e]
      by_cases c : cG B (pck el B w n) * (w n : Int) < B n * (cW w (pck el B w n) : Int)
      · rw [if_pos c, if_pos ((mul_sc hs).mpr c)]
      · rw [if_neg c, if_neg (fun q => c ((mul_sc hs).mp q))]
    · rw [pck_skip h, pck_skip h, ih]
def elL (W : Nat → Nat) (L : Nat) (ld : Nat → Nat) (lw : Nat) (t : Nat) : Bool := decide (ld t < 4) && decide (lw + W t ≤ L)
theorem elL_iff {L : Nat} {ld : Nat → Nat} {lw t : Nat} : elL W L ld lw t = true ↔ ld t < 4 ∧ lw + W t ≤ L := by
  unfold elL
  rw [Bool.and_eq_true, decide_eq_true_eq, decide_eq_true_eq]
def bL (G : Nat → Nat → Int) (ld : Nat → Nat) (t : Nat) : Int := G t (ld t + 1) - G t (ld t)
def upL (ld : Nat → Nat) (t : Nat) : Nat → Nat := fun i => if i = t then ld i + 1 else ld i
def ldS (G : Nat → Nat → Int) (W : Nat → Nat) (L : Nat) : Nat → (Nat → Nat) → Nat → (Nat → Nat) × Nat
  | 0, ld, lw => (ld, lw)
  | m + 1, ld, lw => match pck (elL W L ld lw) (bL G ld) W 6 with
    | none => (ld, lw)
    | some t => ldS G W L m (upL ld t) (lw + W t)
theorem ldS_none {L m : Nat} {ld : Nat → Nat} {lw : Nat} (h : pck (elL W L ld lw) (bL G ld) W 6 = none) : ldS G W L (m + 1) ld lw = (ld, lw) := by
  unfold ldS
  rw [h]
theorem ldS_some {L m : Nat} {ld : Nat → Nat} {lw t : Nat} (h : pck (elL W L ld lw) (bL G ld) W 6 = some t) : ldS G W L (m + 1) ld lw = ldS G W L m (upL ld t) (lw + W t) := by
  show (match pck (elL W L ld lw) (bL G ld) W 6 with
    | none => (ld, lw)
    | some t => ldS G W L m (upL ld t) (lw + W t)) = _
  rw [h]
theorem ldS_sc {L : Nat} {s : Int} (hs : 0 < s) : ∀ m ld lw, ldS (fun t k => G t k * s) W L m ld lw = ldS G W L m ld lw
  | 0, _, _ => rfl
  | m + 1, ld, lw => by
    have e : bL (fun t k => G t k * s) ld = fun i => bL G ld i * s := by
      funext i
      unfold bL
      rw [Int.sub_mul]
    have e2 : pck (elL W L ld lw) (bL (fun t k => G t k * s) ld) W 6 = pck (elL W L ld lw) (bL G ld) W 6 := by rw [e]; exact pck_sc hs 6
    cases h : pck (elL W L ld lw) (bL G ld) W 6 with
    | none => rw [ldS_none h, ldS_none (e2.trans h)]
    | some t => rw [ldS_some h, ldS_some (e2.trans h), ldS_sc hs m]
/-- loads stay at four at most, their weight is kept -/
def ldOk (W : Nat → Nat) (L : Nat) (ld : Nat → Nat) (lw : Nat) : Prop := (∀ i, i < 6 → ld i ≤ 4) ∧ lw = sN ld W 6 ∧ lw ≤ L
theorem sN_up (ld W : Nat → Nat) (t : Nat) : ∀ n, sN (upL ld t) W n = sN ld W n + if t < n then W t else 0
  | 0 => by rw [if_neg (by omega)]; rfl
  | n + 1 => by
    show sN (upL ld t) W n + upL ld t n * W n = sN ld W n + ld n * W n + _
    rw [sN_up ld W t n]
    unfold upL
    by_cases c : n = t
    · subst c
      rw [if_neg (by omega), if_pos rfl, if_pos (by omega), Nat.add_mul, Nat.one_mul]
      omega
    · rw [if_neg c]
      by_cases c2 : t < n
      · rw [if_pos c2, if_pos (by omega)]; omega
      · rw [if_neg c2, if_neg (by omega)]; omega
theorem ldOk_up {L : Nat} {ld : Nat → Nat} {lw t : Nat} (h : ldOk W L ld lw) (ht : t < 6) (he : elL W L ld lw t = true) : ldOk W L (upL ld t) (lw + W t) := by
  rw [elL_iff] at he
  refine ⟨fun i hi => ?_, ?_, he.2⟩
  · have := h.1 i hi
    unfold upL
    by_cases c : i = t
    · rw [if_pos c]; rw [c]; omega
    · rw [if_neg c]; exact this
  · rw [sN_up, if_pos ht, h.2.1]
theorem ldS_ok {L : Nat} (hW : ∀ t, t < 6 → 0 < W t) : ∀ m ld lw, ldOk W L ld lw → ldOk W L (ldS G W L m ld lw).1 (ldS G W L m ld lw).2
  | 0, _, _, h => h
  | m + 1, ld, lw, h => by
    cases hp : pck (elL W L ld lw) (bL G ld) W 6 with
    | none => rw [ldS_none hp]; exact h
    | some t =>
      have := pck_ok _ _ _ 6 t hW hp
      rw [ldS_some hp]
      exact ldS_ok hW m _ _ (ldOk_up h this.2.2 this.2.1)
theorem oI_m1 {o : Option Nat} (h : ∀ j, o = some j → j < 100) : oI o = (-1 : Int32) ↔ o = none := by
  cases o with
  | none => exact ⟨fun _ => rfl, fun _ => rfl⟩
  | some j =>
    refine ⟨fun q => ?_, fun q => by cases q⟩
    have q' : nI j = (-1 : Int32) := q
    have := congrArg Int32.toInt q'
    rw [nI_toInt (by have := h j rfl; omega), show (-1 : Int32).toInt = -1 from rfl] at this
    omega
theorem k_stepGain (hG : GK σ G W pk) {t k : Nat} (ht : t < 6) (hk : k < 4) : f_X5_stepGain σ (nI t) (nI k) = some (lI (G t (k + 1) - G t k), σ) := by
  unfold f_X5_stepGain
  have i1 : pp_ix (nI t) 6 := q_ix (by omega) (by omega)
  have i2 : pp_ix (nI (k + 1)) 5 := q_ix (by omega) (by omega)
  have i3 : pp_ix (nI k) 5 := q_ix (by omega) (by omega)
  rw [nI_1, if_pos i1, if_pos i2, if_pos i3, q_cl (k := t) (by omega), q_cl (k := k + 1) (by omega), q_cl (k := k) (by omega), (hG.1 t ht (k + 1) (by omega)).1, (hG.1 t ht k (by omega)).1, lI_sub]
theorem mul_bd {x : Int} {w : Nat} (hx : -2000000000000 ≤ x ∧ x ≤ 2000000000000) (hw : w ≤ 80) : -200000000000000 ≤ x * (w : Int) ∧ x * (w : Int) ≤ 200000000000000 := by
  have h1 := Int.mul_le_mul_of_nonneg_right hx.1 (show (0 : Int) ≤ (w : Int) by omega)
  have h2 := Int.mul_le_mul_of_nonneg_right hx.2 (show (0 : Int) ≤ (w : Int) by omega)
  constructor <;> omega
theorem cG_bd {el : Nat → Bool} {B : Nat → Int} {w : Nat → Nat} {n : Nat} (hw : ∀ i, i < n → 0 < w i) (hB : ∀ i, i < n → el i = true → -2000000000000 ≤ B i ∧ B i ≤ 2000000000000) : -2000000000000 ≤ cG B (pck el B w n) ∧ cG B (pck el B w n) ≤ 2000000000000 := by
  cases h : pck el B w n with
  | none => show -2000000000000 ≤ (0 : Int) ∧ (0 : Int) ≤ 2000000000000; omega
  | some j =>
    have := pck_ok el B w n j hw h
    exact hB j this.2.2 this.2.1
theorem cW_bd {el : Nat → Bool} {B : Nat → Int} {w : Nat → Nat} {n : Nat} (hw : ∀ i, i < n → 0 < w i ∧ w i ≤ 80) : 1 ≤ cW w (pck el B w n) ∧ cW w (pck el B w n) ≤ 80 := by
  cases h : pck el B w n with
  | none => show 1 ≤ 1 ∧ 1 ≤ 80; omega
  | some j =>
    have := pck_ok el B w n j (fun i hi => (hw i hi).1) h
    exact hw j this.2.2
theorem k_nl10 (hG : GK σ G W pk) {L lw : Nat} {ld : Nat → Nat} (hL : L ≤ 100) (hlw : lw ≤ L) (hld : ∀ i, i < 6 → σ.1 33 i = nI (ld i) ∧ ld i ≤ 4) : ∀ d t n, t + d = 6 → d < n → f_X5_nextLoaded_10 n σ (nI (L - lw)) (oI (pck (elL W L ld lw) (bL G ld) W t)) (lI (cG (bL G ld) (pck (elL W L ld lw) (bL G ld) W t))) (nI (cW W (pck (elL W L ld lw) (bL G ld) W t))) (nI t) = some (oI (pck (elL W L ld lw) (bL G ld) W 6), σ) := by
  have hW := hG.2
  intro d
  induction d with
  | zero =>
    intro t n ht hn
    obtain ⟨n, rfl⟩ : ∃ n', n = n' + 1 := ⟨n - 1, by omega⟩
    have : t = 6 := by omega
    subst this
    show f_X5_nextLoaded_10_B (f_X5_nextLoaded_10 n) _ _ _ _ _ _ = _
    unfold f_X5_nextLoaded_10_B
    rw [if_neg (show ¬ nI 6 < (6 : Int32) from q_nlt 6)]
  | succ d ih =>
    intro t n ht hn
    obtain ⟨n, rfl⟩ : ∃ n', n = n' + 1 := ⟨n - 1, by omega⟩
    have ih' := ih (t + 1) n (by omega) (by omega)
    obtain ⟨-, -, w1, w2, w3⟩ := hW t (by omega)
    obtain ⟨l1, l2⟩ := hld t (by omega)
    show f_X5_nextLoaded_10_B (f_X5_nextLoaded_10 n) _ _ _ _ _ _ = _
    unfold f_X5_nextLoaded_10_B f_X5_nextLoaded_88
    have i1 : pp_ix (nI t) 6 := q_ix (by omega) (by omega)
    rw [if_pos (show nI t < (6 : Int32) from nI_lt (b := 6) (by omega) (by omega)), if_pos i1, q_cl (k := t) (by omega), l1, w1, nI_1]
    by_cases c1 : ld t < 4
    · rw [if_pos (show nI (ld t) < (4 : Int32) from nI_lt (b := 4) c1 (by omega))]
      by_cases c2 : lw + W t ≤ L
      · have he : elL W L ld lw t = true := elL_iff.mpr ⟨c1, c2⟩
        rw [if_neg (q_nl (by omega) (by omega)), k_stepGain hG (by omega) c1, Option.bind_some, lI_nI (by omega)]
        rw [pck_step he] at ih'
        have hwb : ∀ i, i < t → 0 < W i ∧ W i ≤ 80 := fun i hi => by have := (hW i (by omega)).2.2.2; omega
        have cw := cW_bd (el := elL W L ld lw) (B := bL G ld) hwb
        have cg := cG_bd (el := elL W L ld lw) (B := bL G ld) (fun i hi => (hwb i hi).1) (fun i hi he => by
          have hq := elL_iff.mp he
          have g1 := (hG.1 i (by omega) (ld i + 1) (by omega)).2
          have g2 := (hG.1 i (by omega) (ld i) (by omega)).2
          unfold bL
          omega)
        have g1 := (hG.1 t (by omega) (ld t + 1) (by omega)).2
        have g2 := (hG.1 t (by omega) (ld t) (by omega)).2
        have gb : -2000000000000 ≤ bL G ld t ∧ bL G ld t ≤ 2000000000000 := by unfold bL; omega
        rw [lI_nI (by omega), lI_mul, show G t (ld t + 1) - G t (ld t) = bL G ld t from rfl, lI_mul]
        have m1 := mul_bd cg (show W t ≤ 80 by omega)
        have m2 := mul_bd gb cw.2
        by_cases c3 : cG (bL G ld) (pck (elL W L ld lw) (bL G ld) W t) * (W t : Int) < bL G ld t * (cW W (pck (elL W L ld lw) (bL G ld) W t) : Int)
        · rw [if_pos c3] at ih'
          rw [if_pos ((lI_lt (by omega) (by omega) (by omega) (by omega)).mpr c3)]
          exact ih'
        · rw [if_neg c3] at ih'
          rw [if_neg (fun q => c3 ((lI_lt (by omega) (by omega) (by omega) (by omega)).mp q))]
          exact ih'
      · rw [pck_skip (fun q => c2 (elL_iff.mp q).2)] at ih'
        rw [if_pos (nI_lt (by omega) (by omega))]
        exact ih'
    · rw [pck_skip (fun q => c1 (elL_iff.mp q).1)] at ih'
      rw [if_neg (show ¬ nI (ld t) < (4 : Int32) from q_nl (b := 4) (by omega) (by omega))]
      exact ih'
theorem k_nextLoaded (hG : GK σ G W pk) {L lw : Nat} {ld : Nat → Nat} (hL : L ≤ 100) (hlw : lw ≤ L) (hld : ∀ i, i < 6 → σ.1 33 i = nI (ld i) ∧ ld i ≤ 4) : f_X5_nextLoaded σ (nI (L - lw)) = some (oI (pck (elL W L ld lw) (bL G ld) W 6), σ) :=
  k_nl10 hG hL hlw hld 6 0 100000 (by omega) (by omega)
def P33 (t i : Nat) : Prop := t = 33
theorem P33_PP {σ σ' : pp_M} (h : fr P33 σ σ') : fr PP σ σ' := fr_mono h (fun t i q => by unfold P33 at q; unfold PP; omega)
theorem k_cl25 {L : Nat} (hL : L ≤ 100) : ∀ m s n σ ld lw, s + m = 24 → m < n → GK σ G W pk → ldOk W L ld lw → (∀ i, i < 6 → σ.1 33 i = nI (ld i)) → ∃ σ', f_X5_chooseLoaded_25 n σ (nI (L - lw)) (nI s) = some σ' ∧ fr P33 σ σ' ∧ ∀ i, i < 6 → σ'.1 33 i = nI ((ldS G W L m ld lw).1 i) := by
  intro m
  induction m with
  | zero =>
    intro s n σ ld lw hs hn hG hok hld
    obtain ⟨n, rfl⟩ : ∃ n', n = n' + 1 := ⟨n - 1, by omega⟩
    have : s = 24 := by omega
    subst this
    refine ⟨σ, ?_, fr_rf, hld⟩
    show f_X5_chooseLoaded_25_B (f_X5_chooseLoaded_25 n) _ _ _ = _
    unfold f_X5_chooseLoaded_25_B
    rw [if_neg (show ¬ nI 24 < (24 : Int32) from q_nlt 24)]
  | succ m ih =>
    intro s n σ ld lw hs hn hG hok hld
    obtain ⟨n, rfl⟩ : ∃ n', n = n' + 1 := ⟨n - 1, by omega⟩
    have hnl := k_nextLoaded hG hL hok.2.2 (fun i hi => ⟨hld i hi, hok.1 i hi⟩)
    have e0 : f_X5_chooseLoaded_25 (n + 1) σ (nI (L - lw)) (nI s) = f_X5_chooseLoaded_25_B (f_X5_chooseLoaded_25 n) σ (nI (L - lw)) (nI s) := rfl
    unfold f_X5_chooseLoaded_25_B at e0
    rw [if_pos (show nI s < (24 : Int32) from nI_lt (b := 24) (by omega) (by omega)), hnl, Option.bind_some] at e0
    cases hp : pck (elL W L ld lw) (bL G ld) W 6 with
    | none =>
      rw [hp, if_pos (show oI none = (-1 : Int32) from rfl)] at e0
      exact ⟨σ, e0, fr_rf, by rw [ldS_none hp]; exact hld⟩
    | some t =>
      have hpo := pck_ok _ _ _ 6 t (fun i hi => (hG.2 i hi).2.2.2.1) hp
      have hel := elL_iff.mp hpo.2.1
      have ht := hpo.2.2
      have i1 : pp_ix (nI t) 6 := q_ix (by omega) (by omega)
      have hfr : fr P33 σ (ppS σ 33 t (nI (ld t + 1))) := fr_S rfl
      obtain ⟨σ', g1, g2, g3⟩ := ih (s + 1) n (ppS σ 33 t (nI (ld t + 1))) (upL ld t) (lw + W t) (by omega) (by omega) (GK_fr hG (P33_PP hfr)) (ldOk_up hok ht hpo.2.1) (fun i hi => by
        unfold upL
        by_cases c : i = t
        · subst c; rw [qs_same, if_pos rfl]
        · rw [qs_ne (fun q => c q.2), if_neg c]; exact hld i hi)
      refine ⟨σ', ?_, fr_tr hfr g2, by rw [ldS_some hp]; exact g3⟩
      have n1 : ¬ oI (some t) = (-1 : Int32) := fun q => by have := (oI_m1 (fun j hj => by cases hj; omega)).mp q; cases this
      have oe : oI (some t) = nI t := rfl
      have r1 : (ppS σ 33 t (nI (ld t + 1))).1 3 (t * 6 + 1) = nI (W t) := by rw [qs_tok (by omega)]; exact (hG.2 t ht).2.2.1
      rw [hp, if_neg n1] at e0
      simp only [oe, if_pos i1, q_cl (k := t) (show t < 2 ^ 31 by omega), hld t ht, nI_1, r1, pk_sub (show W t ≤ L - lw by omega)] at e0
      rw [e0, show L - lw - W t = L - (lw + W t) by omega]
      exact g1
theorem k_cl4 {L : Nat} : ∀ d t n σ, t + d = 6 → d < n → (∀ i, i < t → σ.1 33 i = 0) → ∃ σ', f_X5_chooseLoaded_4 n σ (nI L) (nI t) = f_X5_chooseLoaded_25 100000 σ' (nI L) 0 ∧ fr P33 σ σ' ∧ ∀ i, i < 6 → σ'.1 33 i = 0 := by
  intro d
  induction d with
  | zero =>
    intro t n σ ht hn h0
    obtain ⟨n, rfl⟩ : ∃ n', n = n' + 1 := ⟨n - 1, by omega⟩
    have : t = 6 := by omega
    subst this
    refine ⟨σ, ?_, fr_rf, h0⟩
    show f_X5_chooseLoaded_4_B (f_X5_chooseLoaded_4 n) _ _ _ = _
    unfold f_X5_chooseLoaded_4_B
    rw [if_neg (show ¬ nI 6 < (6 : Int32) from q_nlt 6)]
  | succ d ih =>
    intro t n σ ht hn h0
    obtain ⟨n, rfl⟩ : ∃ n', n = n' + 1 := ⟨n - 1, by omega⟩
    obtain ⟨σ', g1, g2, g3⟩ := ih (t + 1) n (ppS σ 33 t 0) (by omega) (by omega) (fun i hi => by
      by_cases c : i = t
      · rw [c, qs_same]
      · rw [qs_ne (fun q => c q.2)]; exact h0 i (by omega))
    refine ⟨σ', ?_, fr_tr (fr_S rfl) g2, g3⟩
    show f_X5_chooseLoaded_4_B (f_X5_chooseLoaded_4 n) _ _ _ = _
    unfold f_X5_chooseLoaded_4_B
    have i1 : pp_ix (nI t) 6 := q_ix (by omega) (by omega)
    rw [if_pos (show nI t < (6 : Int32) from nI_lt (b := 6) (by omega) (by omega)), if_pos i1, q_cl (k := t) (by omega), nI_1]
    exact g1
theorem ld0_ok (W : Nat → Nat) (L : Nat) : ldOk W L (fun _ => 0) 0 := by
  refine ⟨fun i hi => Nat.zero_le _, ?_, Nat.zero_le _⟩
  have : ∀ n, sN (fun _ => 0) W n = 0 := by
    intro n
    induction n with
    | zero => rfl
    | succ n ih => show sN (fun _ => 0) W n + 0 * W n = 0; rw [ih, Nat.zero_mul]
  exact (this 6).symm
theorem k_chooseLoaded (hG : GK σ G W pk) {L : Nat} (hL : L ≤ 100) : ∃ σ', f_X5_chooseLoaded σ (nI L) = some σ' ∧ fr P33 σ σ' ∧ ∀ i, i < 6 → σ'.1 33 i = nI ((ldS G W L 24 (fun _ => 0) 0).1 i) := by
  obtain ⟨σ1, g1, g2, g3⟩ := k_cl4 (L := L) 6 0 100000 σ (by omega) (by omega) (fun i hi => by omega)
  obtain ⟨σ', d1, d2, d3⟩ := k_cl25 hL 24 0 100000 σ1 (fun _ => 0) 0 (by omega) (by omega) (GK_fr hG (P33_PP g2)) (ld0_ok W L) (fun i hi => g3 i hi)
  refine ⟨σ', ?_, fr_tr g2 d2, d3⟩
  unfold f_X5_chooseLoaded
  rw [show f_X5_chooseLoaded_4 100000 σ (nI L) 0 = _ from g1]
  exact d1
end LOADS
