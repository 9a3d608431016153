/-! bits; the bound; load -/
section BOUND
variable {Ca : pp_M → pp_M → Prop} {σ μ ν : pp_M} {G : Nat → Nat → Int} {W pk tp : Nat → Nat}
theorem nI_or (a b : Nat) : nI a ||| nI b = nI (a ||| b) := Int32.toBitVec_inj.mp (by
  show BitVec.ofNat 32 a ||| BitVec.ofNat 32 b = BitVec.ofNat 32 (a ||| b)
  rw [BitVec.ofNat_or])
theorem nI_and (a b : Nat) : nI a &&& nI b = nI (a &&& b) := Int32.toBitVec_inj.mp (by
  show BitVec.ofNat 32 a &&& BitVec.ofNat 32 b = BitVec.ofNat 32 (a &&& b)
  rw [BitVec.ofNat_and])
theorem sh31 : ∀ j, j < 32 → ((nI j &&& 31).toBitVec.smod 32).toNat = j := by decide +kernel
theorem bit_at {u s : Nat} (hu : u < 2 ^ 31) (hs : s < 32) : (nI u >>> (nI s &&& 31)) &&& (1 : Int32) = nI (u / 2 ^ s % 2) := by
  rw [pk_shrN hu _ s (sh31 s hs), pk_andN (by have := Nat.div_le_self u (2 ^ s); omega) 1 (by decide)]
theorem bit_0 {u s : Nat} (hu : u < 2 ^ 31) (hs : s < 32) : ((nI u >>> (nI s &&& 31)) &&& (1 : Int32) = 0) ↔ u.testBit s = false := by
  rw [bit_at hu hs, Nat.testBit_eq_decide_div_mod_eq, decide_eq_false_iff_not, show (0 : Int32) = nI 0 from rfl, nI_eqI (by omega) (by omega)]
  omega
theorem bit_1 {u s : Nat} (hu : u < 2 ^ 31) (hs : s < 32) : ((nI u >>> (nI s &&& 31)) &&& (1 : Int32) = 1) ↔ u.testBit s = true := by
  rw [bit_at hu hs, Nat.testBit_eq_decide_div_mod_eq, decide_eq_true_eq, c1I, nI_eqI (by omega) (by omega)]
theorem bit_sh {s : Nat} (hs : s < 31) : (1 : Int32) <<< (nI s &&& 31) = nI (2 ^ s) := by
  have : (2 : Nat) ^ s < 2 ^ 32 := Nat.pow_lt_pow_right (by omega) (by omega)
  rw [c1I, pk_shlN _ s (sh31 s (by omega)) (by omega), Nat.one_mul]
def bS (G : Nat → Nat → Int) (s : Nat) : Int := G (s / 4) (s % 4 + 1) - G (s / 4) (s % 4)
def wT (W : Nat → Nat) (s : Nat) : Nat := W (s / 4)
def upB (us : Nat → Bool) (s : Nat) : Nat → Bool := fun i => if i = s then true else us i
def bdS (G : Nat → Nat → Int) (W : Nat → Nat) : Nat → (Nat → Bool) → Nat → Int → Int × Nat
  | 0, _, _, sum => (sum, 1)
  | m + 1, us, room, sum => if room = 0 then (sum, 1) else match pck (fun s => !us s) (bS G) (wT W) 24 with
    | none => (sum, 1)
    | some s => if room < wT W s then (sum * (wT W s : Int) + bS G s * (room : Int), wT W s) else bdS G W m (upB us s) (room - wT W s) (sum + bS G s)
theorem bdS_0 {m : Nat} {us : Nat → Bool} {sum : Int} : bdS G W (m + 1) us 0 sum = (sum, 1) := by
  show (if 0 = 0 then (sum, 1) else match pck (fun s => !us s) (bS G) (wT W) 24 with
    | none => (sum, 1)
    | some s => if 0 < wT W s then (sum * (wT W s : Int) + bS G s * ((0 : Nat) : Int), wT W s) else bdS G W m (upB us s) (0 - wT W s) (sum + bS G s)) = _
  rw [if_pos rfl]
theorem bdS_none {m room : Nat} {us : Nat → Bool} {sum : Int} (h : pck (fun s => !us s) (bS G) (wT W) 24 = none) : bdS G W (m + 1) us room sum = (sum, 1) := by
  show (if room = 0 then (sum, 1) else match pck (fun s => !us s) (bS G) (wT W) 24 with
    | none => (sum, 1)
    | some s => if room < wT W s then (sum * (wT W s : Int) + bS G s * (room : Int), wT W s) else bdS G W m (upB us s) (room - wT W s) (sum + bS G s)) = _
  by_cases c : room = 0
  · rw [if_pos c]
  · rw [if_neg c, h]
theorem bdS_some {m room s : Nat} {us : Nat → Bool} {sum : Int} (hr : room ≠ 0) (h : pck (fun s => !us s) (bS G) (wT W) 24 = some s) : bdS G W (m + 1) us room sum = if room < wT W s then (sum * (wT W s : Int) + bS G s * (room : Int), wT W s) else bdS G W m (upB us s) (room - wT W s) (sum + bS G s) := by
  show (if room = 0 then (sum, 1) else match pck (fun s => !us s) (bS G) (wT W) 24 with
    | none => (sum, 1)
    | some s => if room < wT W s then (sum * (wT W s : Int) + bS G s * (room : Int), wT W s) else bdS G W m (upB us s) (room - wT W s) (sum + bS G s)) = _
  rw [if_neg hr, h]
theorem bS_sc (s : Int) : bS (fun t k => G t k * s) = fun i => bS G i * s := by
  funext i
  unfold bS
  rw [Int.sub_mul]
theorem bdS_sc {s : Int} (hs : 0 < s) : ∀ m us room sum, bdS (fun t k => G t k * s) W m us room (sum * s) = ((bdS G W m us room sum).1 * s, (bdS G W m us room sum).2)
  | 0, _, _, _ => rfl
  | m + 1, us, room, sum => by
    by_cases c : room = 0
    · rw [c, bdS_0, bdS_0]
    have e2 : pck (fun s => !us s) (bS (fun t k => G t k * s)) (wT W) 24 = pck (fun s => !us s) (bS G) (wT W) 24 := by rw [bS_sc]; exact pck_sc hs 24
    cases h : pck (fun s => !us s) (bS G) (wT W) 24 with
    | none => rw [bdS_none h, bdS_none (e2.trans h)]
    | some i =>
      rw [bdS_some c h, bdS_some c (e2.trans h), bS_sc]
      by_cases c2 : room < wT W i
      · rw [if_pos c2, if_pos c2]
        refine Prod.ext ?_ rfl
        show sum * s * (wT W i : Int) + bS G i * s * (room : Int) = (sum * (wT W i : Int) + bS G i * (room : Int)) * s
        rw [Int.add_mul, Int.mul_assoc, Int.mul_assoc, Int.mul_assoc, Int.mul_assoc, Int.mul_comm s (wT W i : Int), Int.mul_comm s (room : Int)]
      · rw [if_neg c2, if_neg c2, show sum * s + bS G i * s = (sum + bS G i) * s from (Int.add_mul _ _ _).symm, bdS_sc hs m]
/-- bounds -/
theorem bS_bd (hG : ∀ t, t < 6 → ∀ k, k < 5 → -1000000000000 ≤ G t k ∧ G t k ≤ 1000000000000) {i : Nat} (hi : i < 24) : -2000000000000 ≤ bS G i ∧ bS G i ≤ 2000000000000 := by
  have g1 := hG (i / 4) (by omega) (i % 4 + 1) (by omega)
  have g2 := hG (i / 4) (by omega) (i % 4) (by omega)
  unfold bS
  omega
theorem k_ns10 (hG : GK σ G W pk) {us : Nat → Bool} (hus : ∀ i, i < 24 → σ.1 31 i = if us i then 1 else 0) : ∀ d s n, s + d = 24 → d < n → f_X5_nextStep_10 n σ (oI (pck (fun s => !us s) (bS G) (wT W) s)) (lI (cG (bS G) (pck (fun s => !us s) (bS G) (wT W) s))) (nI (cW (wT W) (pck (fun s => !us s) (bS G) (wT W) s))) (nI s) = some (oI (pck (fun s => !us s) (bS G) (wT W) 24), σ) := by
  have hWb : ∀ i, i < 24 → 0 < wT W i ∧ wT W i ≤ 80 := fun i hi => by have := (hG.2 (i / 4) (by omega)).2.2.2; unfold wT; omega
  have hBb : ∀ i, i < 24 → -2000000000000 ≤ bS G i ∧ bS G i ≤ 2000000000000 := fun i hi => bS_bd (fun t ht k hk => (hG.1 t ht k hk).2) hi
  intro d
  induction d with
  | zero =>
    intro s n hs hn
    obtain ⟨n, rfl⟩ : ∃ n', n = n' + 1 := ⟨n - 1, by omega⟩
    have : s = 24 := by omega
    subst this
    show f_X5_nextStep_10_B (f_X5_nextStep_10 n) _ _ _ _ _ = _
    unfold f_X5_nextStep_10_B
    rw [if_neg (show ¬ nI 24 < (24 : Int32) from q_nlt 24)]
  | succ d ih =>
    intro s n hs hn
    obtain ⟨n, rfl⟩ : ∃ n', n = n' + 1 := ⟨n - 1, by omega⟩
    have ih' := ih (s + 1) n (by omega) (by omega)
    have hs24 : s < 24 := by omega
    have cw := cW_bd (n := s) (el := fun s => !us s) (B := bS G) (fun i hi => hWb i (by omega))
    have cg := cG_bd (n := s) (el := fun s => !us s) (B := bS G) (fun i hi => (hWb i (by omega)).1) (fun i hi _ => hBb i (by omega))
    have gb := hBb s hs24
    have hw := hWb s hs24
    have m1 := mul_bd cg hw.2
    have m2 := mul_bd gb cw.2
    have d1 : nI s / (4 : Int32) = nI (s / 4) := pk_div (d := 4) (by omega) (by omega) (by omega)
    have d2 : nI s - nI (s / 4) * (4 : Int32) = nI (s % 4) := by
      have := pk_rem (a := s) (d := 4) (by omega) (by omega) (by omega)
      rw [pk_div (by omega) (by omega) (by omega)] at this
      exact this
    have i1 : pp_ix (nI (s / 4)) 6 := q_ix (by omega) (by omega)
    have i2 : pp_ix (nI s) 24 := q_ix (by omega) (by omega)
    show f_X5_nextStep_10_B (f_X5_nextStep_10 n) _ _ _ _ _ = _
    unfold f_X5_nextStep_10_B f_X5_nextStep_82
    rw [if_pos (show nI s < (24 : Int32) from nI_lt (b := 24) (by omega) (by omega)), d1, d2, if_pos i1, k_stepGain hG (by omega) (by omega), Option.bind_some, if_pos i2, q_cl (k := s / 4) (by omega), (hG.2 (s / 4) (by omega)).2.2.1, nI_1]
    rw [show G (s / 4) (s % 4 + 1) - G (s / 4) (s % 4) = bS G s from rfl, show W (s / 4) = wT W s from rfl, lI_nI (by omega), lI_mul, lI_nI (by omega), lI_mul]
    simp only [q_cl (k := s) (show s < 2 ^ 31 by omega), hus s hs24]
    cases hb : us s with
    | true =>
      rw [pck_skip (by rw [hb]; decide)] at ih'
      rw [if_neg (show ¬ (if true = true then (1 : Int32) else 0) = 0 by decide)]
      exact ih'
    | false =>
      rw [pck_step (by rw [hb]; rfl)] at ih'
      rw [if_pos (show (if false = true then (1 : Int32) else 0) = 0 from rfl)]
      by_cases c3 : cG (bS G) (pck (fun s => !us s) (bS G) (wT W) s) * (wT W s : Int) < bS G s * (cW (wT W) (pck (fun s => !us s) (bS G) (wT W) s) : Int)
      · rw [if_pos c3] at ih'
        rw [if_pos ((lI_lt (by omega) (by omega) (by omega) (by omega)).mpr c3)]
        exact ih'
      · rw [if_neg c3] at ih'
        rw [if_neg (fun q => c3 ((lI_lt (by omega) (by omega) (by omega) (by omega)).mp q))]
        exact ih'
theorem k_nextStep (hG : GK σ G W pk) {us : Nat → Bool} (hus : ∀ i, i < 24 → σ.1 31 i = if us i then 1 else 0) : f_X5_nextStep σ = some (oI (pck (fun s => !us s) (bS G) (wT W) 24), σ) :=
  k_ns10 hG hus 24 0 100000 (by omega) (by omega)
def P31 (t i : Nat) : Prop := t = 31 ∨ t = 25
theorem P31_PP {σ σ' : pp_M} (h : fr P31 σ σ') : fr PP σ σ' := fr_mono h (fun t i q => by unfold P31 at q; unfold PP; omega)
theorem k_fb37 : ∀ m c n σ us room sum, c + m = 24 → m + 1 < n → GK σ G W pk → (∀ i, i < 24 → σ.1 31 i = if us i then 1 else 0) → σ.2 25 7 = lI sum → σ.2 25 8 = lI 268435456 → room ≤ 100 → ∃ σ', f_X5_findBound_37 n σ (nI room) (nI c) = some σ' ∧ fr P31 σ σ' ∧ σ'.2 25 7 = lI (bdS G W m us room sum).1 ∧ σ'.2 25 8 = lI (268435456 * ((bdS G W m us room sum).2 : Int)) := by
  intro m
  induction m with
  | zero =>
    intro c n σ us room sum hc hn hG hus h7 h8 hr
    obtain ⟨n, rfl⟩ : ∃ n', n = n' + 1 := ⟨n - 1, by omega⟩
    have : c = 24 := by omega
    subst this
    refine ⟨σ, ?_, fr_rf, h7, by rw [h8]; rfl⟩
    show f_X5_findBound_37_B (f_X5_findBound_37 n) _ _ _ = _
    unfold f_X5_findBound_37_B
    rw [if_neg (show ¬ nI 24 < (24 : Int32) from q_nlt 24)]
  | succ m ih =>
    intro c n σ us room sum hc hn hG hus h7 h8 hr
    obtain ⟨n, rfl⟩ : ∃ n', n = n' + 1 := ⟨n - 1, by omega⟩
    have e0 : f_X5_findBound_37 (n + 1) σ (nI room) (nI c) = f_X5_findBound_37_B (f_X5_findBound_37 n) σ (nI room) (nI c) := rfl
    unfold f_X5_findBound_37_B at e0
    rw [if_pos (show nI c < (24 : Int32) from nI_lt (b := 24) (by omega) (by omega))] at e0
    by_cases c0 : room = 0
    · subst c0
      rw [if_neg (show ¬ (0 : Int32) < nI 0 by decide)] at e0
      exact ⟨σ, e0, fr_rf, by rw [bdS_0]; exact h7, by rw [bdS_0, h8]; rfl⟩
    rw [if_pos (show (0 : Int32) < nI room from nI_lt (a := 0) (by omega) (by omega)), k_nextStep hG hus, Option.bind_some] at e0
    cases hp : pck (fun s => !us s) (bS G) (wT W) 24 with
    | none =>
      rw [hp, if_pos (show oI none = (-1 : Int32) from rfl)] at e0
      exact ⟨σ, e0, fr_rf, by rw [bdS_none hp]; exact h7, by rw [bdS_none hp, h8]; rfl⟩
    | some s =>
      have hWb : ∀ i, i < 24 → 0 < wT W i ∧ wT W i ≤ 20 := fun i hi => by have := (hG.2 (i / 4) (by omega)).2.2.2; unfold wT; omega
      have hpo := pck_ok _ _ _ 24 s (fun i hi => (hWb i hi).1) hp
      have hs := hpo.2.2
      have hw := hWb s hs
      have d1 : nI s / (4 : Int32) = nI (s / 4) := pk_div (d := 4) (by omega) (by omega) (by omega)
      have d2 : nI s - nI (s / 4) * (4 : Int32) = nI (s % 4) := by
        have := pk_rem (a := s) (d := 4) (by omega) (by omega) (by omega)
        rw [pk_div (by omega) (by omega) (by omega)] at this
        exact this
      have i1 : pp_ix (nI (s / 4)) 6 := q_ix (by omega) (by omega)
      have i2 : pp_ix (nI s) 24 := q_ix (by omega) (by omega)
      have n1 : ¬ oI (some s) = (-1 : Int32) := fun q => by have := (oI_m1 (fun j hj => by cases hj; omega)).mp q; cases this
      have oe : oI (some s) = nI s := rfl
      have hfr : fr P31 σ (ppS σ 31 s 1) := fr_S (Or.inl rfl)
      have hG1 := GK_fr hG (P31_PP hfr)
      have hst := k_stepGain hG1 (t := s / 4) (k := s % 4) (by omega) (by omega)
      have hwe : (ppS σ 31 s 1).1 3 (s / 4 * 6 + 1) = nI (wT W s) := (hG1.2 (s / 4) (by omega)).2.2.1
      rw [hp, if_neg n1, oe, if_pos i2, q_cl (k := s) (by omega), d1, d2, hst, Option.bind_some, if_pos i1, q_cl (k := s / 4) (by omega), show G (s / 4) (s % 4 + 1) - G (s / 4) (s % 4) = bS G s from rfl] at e0
      rw [bdS_some c0 hp]
      simp only [hwe, qs_2, h7] at e0
      by_cases c2 : room < wT W s
      · rw [if_pos (nI_lt c2 (by omega))] at e0
        refine ⟨ppT (ppT (ppS σ 31 s 1) 25 7 (lI (sum * (wT W s : Int) + bS G s * (room : Int)))) 25 8 (lI (268435456 * (wT W s : Int))), ?_, ?_, ?_, ?_⟩
        · rw [e0]
          unfold f_X5_findBound_147
          obtain ⟨n, rfl⟩ : ∃ n', n = n' + 1 := ⟨n - 1, by omega⟩
          rw [lI_nI (by omega), lI_nI (by omega), lI_mul, lI_mul, lI_add, show (268435456 : Int64) = lI 268435456 from rfl, lI_mul, nI_1]
          show f_X5_findBound_37_B (f_X5_findBound_37 n) _ _ _ = _
          unfold f_X5_findBound_37_B
          have neg : ¬ (0 : Int32) < nI room - nI (wT W s) := by
            rw [q_lt32, pk_sub_toInt (by omega) (by omega), show (0 : Int32).toInt = 0 from rfl]
            omega
          rw [if_neg neg]
          split <;> rfl
        · exact fr_tr hfr (fr_tr (fr_T (Or.inr rfl)) (fr_T (Or.inr rfl)))
        · rw [if_pos c2, qt_ne (by omega), qt_same]
        · rw [if_pos c2, qt_same]
      · rw [if_neg (q_nl (by omega) (by omega)), lI_add] at e0
        unfold f_X5_findBound_147 at e0
        rw [pk_sub (by omega), nI_1] at e0
        have hfr2 : fr P31 σ (ppT (ppS σ 31 s 1) 25 7 (lI (sum + bS G s))) := fr_tr hfr (fr_T (Or.inr rfl))
        obtain ⟨σ', g1, g2, g3, g4⟩ := ih (c + 1) n (ppT (ppS σ 31 s 1) 25 7 (lI (sum + bS G s))) (upB us s) (room - wT W s) (sum + bS G s) (by omega) (by omega) (GK_fr hG (P31_PP hfr2)) (fun i hi => by
          rw [qt_1]
          unfold upB
          by_cases c : i = s
          · subst c; rw [qs_same, if_pos rfl]; rfl
          · rw [qs_ne (fun q => c q.2), if_neg c]; exact hus i hi) (by rw [qt_same]) (by rw [qt_ne (by omega)]; exact h8) (by omega)
        refine ⟨σ', by rw [e0]; exact g1, fr_tr hfr2 g2, by rw [if_neg c2]; exact g3, by rw [if_neg c2]; exact g4⟩
theorem k_fb2 {L : Nat} : ∀ d s n σ, s + d = 24 → d < n → (∀ i, i < s → σ.1 31 i = 0) → ∃ σ', f_X5_findBound_2 n σ (nI L) (nI s) = f_X5_findBound_37 100000 (ppT (ppT σ' 25 7 (0 : Int64)) 25 8 (268435456 : Int64)) (nI L) 0 ∧ fr P31 σ σ' ∧ ∀ i, i < 24 → σ'.1 31 i = 0 := by
  intro d
  induction d with
  | zero =>
    intro t n σ ht hn h0
    obtain ⟨n, rfl⟩ : ∃ n', n = n' + 1 := ⟨n - 1, by omega⟩
    have : t = 24 := by omega
    subst this
    refine ⟨σ, ?_, fr_rf, h0⟩
    show f_X5_findBound_2_B (f_X5_findBound_2 n) _ _ _ = _
    unfold f_X5_findBound_2_B
    rw [if_neg (show ¬ nI 24 < (24 : Int32) from q_nlt 24)]
  | succ d ih =>
    intro t n σ ht hn h0
    obtain ⟨n, rfl⟩ : ∃ n', n = n' + 1 := ⟨n - 1, by omega⟩
    obtain ⟨σ', g1, g2, g3⟩ := ih (t + 1) n (ppS σ 31 t 0) (by omega) (by omega) (fun i hi => by
      by_cases c : i = t
      · rw [c, qs_same]
      · rw [qs_ne (fun q => c q.2)]; exact h0 i (by omega))
    refine ⟨σ', ?_, fr_tr (fr_S (Or.inl rfl)) g2, g3⟩
    show f_X5_findBound_2_B (f_X5_findBound_2 n) _ _ _ = _
    unfold f_X5_findBound_2_B
    have i1 : pp_ix (nI t) 24 := q_ix (by omega) (by omega)
    rw [if_pos (show nI t < (24 : Int32) from nI_lt (b := 24) (by omega) (by omega)), if_pos i1, q_cl (k := t) (by omega), nI_1]
    exact g1
/-- the bound, of which the part above is in sixteenths to the length -/
def BD (μ : pp_M) : Int × Nat := bdS (gn μ (rowL μ)) (Wt μ) 24 (fun _ => false) (Lm μ) 0
theorem kBound (hI : Inv μ) (hG : GK σ (GS μ (rowL μ)) (Wt μ) (pkS μ (rowL μ))) : ∃ σ', f_X5_findBound σ (nI (Lm μ)) = some σ' ∧ fr P31 σ σ' ∧ σ'.2 25 7 = lI ((BD μ).1 * 16 ^ (7 - (rowL μ).length)) ∧ σ'.2 25 8 = lI (268435456 * ((BD μ).2 : Int)) := by
  obtain ⟨σ1, g1, g2, g3⟩ := k_fb2 (L := Lm μ) 24 0 100000 σ (by omega) (by omega) (fun i hi => by omega)
  have h1 : fr P31 σ (ppT (ppT σ1 25 7 (0 : Int64)) 25 8 (268435456 : Int64)) := fr_tr g2 (fr_tr (fr_T (Or.inr rfl)) (fr_T (Or.inr rfl)))
  obtain ⟨σ', d1, d2, d3, d4⟩ := k_fb37 24 0 100000 _ (fun _ => false) (Lm μ) 0 (by omega) (by omega) (GK_fr hG (P31_PP h1)) (fun i hi => by rw [qt_1, qt_1, g3 i hi]; rfl) (by rw [qt_ne (by omega), qt_same]; rfl) (by rw [qt_same]; rfl) (Lm_ok hI).2.2
  have e : bdS (GS μ (rowL μ)) (Wt μ) 24 (fun _ => false) (Lm μ) 0 = ((BD μ).1 * 16 ^ (7 - (rowL μ).length), (BD μ).2) := by
    have := bdS_sc (G := gn μ (rowL μ)) (W := Wt μ) (s_pos (7 - (rowL μ).length)) 24 (fun _ => false) (Lm μ) 0
    rw [Int.zero_mul] at this
    exact this
  rw [e] at d3 d4
  refine ⟨σ', ?_, fr_tr h1 d2, d3, d4⟩
  unfold f_X5_findBound
  rw [show f_X5_findBound_2 100000 σ (nI (Lm μ)) 0 = _ from g1]
  exact d1
end BOUND
