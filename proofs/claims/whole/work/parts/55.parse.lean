/-! the line, read in parts: purely, and in the class -/
section PARSE
variable {Ca : pp_M → pp_M → Prop} {σ μ ν : pp_M}
def tN (μ : pp_M) : Nat := (μ.1 40 11).toInt.toNat
theorem tN_ok (hI : Inv μ) : μ.1 40 11 = nI (tN μ) ∧ tN μ ≤ 40 := by
  have h := hI.2.2.2.2.2.1
  unfold bd at h
  unfold tN
  obtain ⟨j, hj, e⟩ := q_of (x := μ.1 40 11) (n := 40) h.1 h.2
  rw [e, nI_toInt (by omega)]
  exact ⟨rfl, by omega⟩
/-- the figure at a place, a sign at a place -/
def dgt (μ : pp_M) (p : Nat) : Option Nat := if p < tN μ ∧ 48 ≤ (μ.1 49 p).toInt ∧ (μ.1 49 p).toInt ≤ 57 then some ((μ.1 49 p).toInt - 48).toNat else none
abbrev isC (μ : pp_M) (p : Nat) (c : Int32) : Prop := p < tN μ ∧ μ.1 49 p = c
theorem dgt_s {p a : Nat} (h : dgt μ p = some a) : p < tN μ ∧ μ.1 49 p = nI (48 + a) ∧ a ≤ 9 := by
  unfold dgt at h
  by_cases c : p < tN μ ∧ 48 ≤ (μ.1 49 p).toInt ∧ (μ.1 49 p).toInt ≤ 57
  · rw [if_pos c] at h
    have e := Option.some.inj h
    obtain ⟨j, hj, ej⟩ := q_of (x := μ.1 49 p) (n := 57) (by omega) c.2.2
    rw [ej, nI_toInt (by omega)] at e c
    refine ⟨c.1, ?_, by omega⟩
    rw [ej]
    exact congrArg nI (by omega)
  · rw [if_neg c] at h; cases h
theorem dgt_n {p : Nat} (h : dgt μ p = none) : ¬ (p < tN μ ∧ 48 ≤ (μ.1 49 p).toInt ∧ (μ.1 49 p).toInt ≤ 57) := fun c => by
  unfold dgt at h
  rw [if_pos c] at h
  cases h
/-- a number of two figures at most, up to hi: a fault's place, or the number and what is behind it -/
def rdN (μ : pp_M) (p hi : Nat) : Nat ⊕ (Nat × Nat) := match dgt μ p with
  | none => .inl p
  | some a => match dgt μ (p + 1) with
    | none => if a ≤ hi then .inr (a, p + 1) else .inl p
    | some b => if 10 * a + b ≤ hi then .inr (10 * a + b, p + 2) else .inl p
theorem rdN_cases (μ : pp_M) (p hi : Nat) : (rdN μ p hi = .inl p ∧ (dgt μ p = none ∨ ∃ a, dgt μ p = some a ∧ ((dgt μ (p + 1) = none ∧ ¬ a ≤ hi) ∨ ∃ b, dgt μ (p + 1) = some b ∧ ¬ 10 * a + b ≤ hi))) ∨ ∃ a, dgt μ p = some a ∧ ((dgt μ (p + 1) = none ∧ a ≤ hi ∧ rdN μ p hi = .inr (a, p + 1)) ∨ ∃ b, dgt μ (p + 1) = some b ∧ 10 * a + b ≤ hi ∧ rdN μ p hi = .inr (10 * a + b, p + 2)) := by
  unfold rdN
  cases h1 : dgt μ p with
  | none => exact Or.inl ⟨rfl, Or.inl rfl⟩
  | some a =>
    cases h2 : dgt μ (p + 1) with
    | none =>
      by_cases c : a ≤ hi
      · exact Or.inr ⟨a, rfl, Or.inl ⟨rfl, c, if_pos c⟩⟩
      · exact Or.inl ⟨if_neg c, Or.inr ⟨a, rfl, Or.inl ⟨rfl, c⟩⟩⟩
    | some b =>
      by_cases c : 10 * a + b ≤ hi
      · exact Or.inr ⟨a, rfl, Or.inr ⟨b, rfl, c, if_pos c⟩⟩
      · exact Or.inl ⟨if_neg c, Or.inr ⟨a, rfl, Or.inr ⟨b, rfl, c⟩⟩⟩
theorem rdN_r {p hi v e : Nat} (h : rdN μ p hi = .inr (v, e)) : v ≤ hi ∧ p + 1 ≤ e ∧ e ≤ tN μ := by
  rcases rdN_cases μ p hi with ⟨h1, _⟩ | ⟨a, h1, ⟨h2, h3, h4⟩ | ⟨b, h2, h3, h4⟩⟩
  · rw [h1] at h; cases h
  · rw [h4] at h
    have := dgt_s h1
    injection h with h
    injection h with h5 h6
    omega
  · rw [h4] at h
    have := dgt_s h2
    injection h with h
    injection h with h5 h6
    omega
theorem rdN_l {p hi q : Nat} (h : rdN μ p hi = .inl q) : q = p := by
  rcases rdN_cases μ p hi with ⟨h1, _⟩ | ⟨a, h1, ⟨h2, h3, h4⟩ | ⟨b, h2, h3, h4⟩⟩
  · rw [h1] at h; injection h with h; exact h.symm
  · rw [h4] at h; cases h
  · rw [h4] at h; cases h
/-- what the class's line has in common with the reference's -/
def LB (σ μ : pp_M) : Prop := σ.1 13 5 = nI (tN μ) ∧ tN μ ≤ 40 ∧ ∀ i, i < 40 → σ.1 14 i = μ.1 49 i
theorem LB_of (hB : Base σ μ) (hI : Inv μ) : LB σ μ := ⟨by rw [hB.2.2.2.2.2.1.1, (tN_ok hI).1], (tN_ok hI).2, hB.2.2.2.2.2.1.2⟩
def lnP (t i : Nat) : Prop := t = 15 ∨ (t = 13 ∧ (i = 2 ∨ i = 3 ∨ i = 4))
theorem lnP_sK {σ σ' : pp_M} (h : fr lnP σ σ') : fr sK σ σ' := fr_mono h (fun t i q => by unfold lnP at q; unfold sK; omega)
theorem LB_fr {σ σ' : pp_M} (h : LB σ μ) (hf : fr lnP σ σ') : LB σ' μ := ⟨by rw [(hf 13 5 (by unfold lnP; omega)).1]; exact h.1, h.2.1, fun i hi => by rw [(hf 14 i (by unfold lnP; omega)).1]; exact h.2.2 i hi⟩
theorem k_figureAt (h : LB σ μ) {p : Nat} (hp : p < 1000) : f_X3_figureAt σ (nI p) = some (oI (dgt μ p), σ) := by
  have hN := h.2.1
  unfold f_X3_figureAt
  rw [h.1]
  by_cases c : p < tN μ
  · have i1 : pp_ix (nI p) 40 := q_ix (by omega) (by omega)
    rw [if_pos (nI_lt c (by omega)), if_pos i1, q_cl (k := p) (by omega), h.2.2 p (by omega), k_within, Option.bind_some]
    cases hd : dgt μ p with
    | none =>
      have hn := dgt_n hd
      rw [if_pos (Classical.byContradiction fun q => by
        have := wi_0 q
        rw [show (48 : Int32).toInt = 48 from rfl, show (57 : Int32).toInt = 57 from rfl] at this
        exact hn ⟨c, this.1, this.2⟩)]
      rfl
    | some a =>
      have hs := dgt_s hd
      have e48 : (nI (48 + a)).toInt = 48 + (a : Int) := by rw [nI_toInt (by omega)]; omega
      have hw : wi (nI (48 + a)) 48 57 = 1 := wi_1 (by rw [e48]; show (48 : Int) ≤ _; omega) (by rw [e48]; show _ ≤ (57 : Int); omega)
      rw [hs.2.1, hw, if_neg (show ¬ (1 : Int32) = 0 by decide), show (48 : Int32) = nI 48 from rfl]
      show some ((σ.1 14 p) - nI 48, σ) = some (nI a, σ)
      rw [h.2.2 p (by omega), hs.2.1, pk_sub (by omega)]
      rw [show 48 + a - 48 = a by omega]
  · rw [if_neg (q_nl (by omega) (by omega))]
    have : dgt μ p = none := by unfold dgt; rw [if_neg (fun q => c q.1)]
    rw [this]
    rfl
theorem k_isAt (h : LB σ μ) {p : Nat} (hp : p < 1000) (c : Int32) : (isC μ p c → f_X3_isAt σ (nI p) c = some (1, σ)) ∧ (¬ isC μ p c → f_X3_isAt σ (nI p) c = some (0, σ)) := by
  have hN := h.2.1
  unfold f_X3_isAt isC
  rw [h.1]
  by_cases c1 : p < tN μ
  · have i1 : pp_ix (nI p) 40 := q_ix (by omega) (by omega)
    rw [if_pos (nI_lt c1 (by omega)), if_pos i1]
    simp only [q_cl (k := p) (show p < 2 ^ 31 by omega), h.2.2 p (show p < 40 by omega)]
    by_cases c2 : μ.1 49 p = c
    · rw [if_pos c2]; exact ⟨fun _ => rfl, fun q => absurd ⟨c1, c2⟩ q⟩
    · rw [if_neg c2]; exact ⟨fun q => absurd q.2 c2, fun _ => rfl⟩
  · rw [if_neg (q_nl (by omega) (by omega))]
    exact ⟨fun q => absurd q.1 c1, fun _ => rfl⟩
theorem wi_nat {v h : Nat} (hv : v < 2 ^ 31) (hh : h < 2 ^ 31) : (v ≤ h → ¬ wi (nI v) 0 (nI h) = 0) ∧ (¬ v ≤ h → wi (nI v) 0 (nI h) = 0) := by
  refine ⟨fun q => ?_, fun q => ?_⟩
  · rw [wi_1 (by rw [nI_toInt hv]; show (0 : Int) ≤ _; omega) (by rw [nI_toInt hv, nI_toInt hh]; omega)]
    decide
  · apply Classical.byContradiction
    intro r
    have := wi_0 r
    rw [nI_toInt hv, nI_toInt hh] at this
    omega
/-- the class reads one of the three numbers, at place q -/
theorem k_rc42 (h : LB σ μ) (k8 : pp_M → Int32 → Int32 → Int32 → Option (Int32 × pp_M)) {q b0 hi l : Nat} {b1 : Int32} (hq : nI b0 + b1 = nI q) (hq2 : q < 900) (hhi : hi ≤ 99) (hl : l < 3) : (∀ r, rdN μ q hi = .inl r → f_X3_readChances_42 k8 σ (nI hi) (nI l) (nI b0) b1 = some (nI q, σ)) ∧ (∀ v e, rdN μ q hi = .inr (v, e) → f_X3_readChances_42 k8 σ (nI hi) (nI l) (nI b0) b1 = k8 (ppS σ 15 l (nI v)) (nI e) (nI v) (nI (l + 1))) := by
  have i1 : pp_ix (nI l) 3 := q_ix (by omega) (by omega)
  have base : f_X3_readChances_42 k8 σ (nI hi) (nI l) (nI b0) b1 = if oI (dgt μ q) < 0 then f_X3_readChances_80 k8 σ (nI q) (nI hi) (nI l) (oI (dgt μ q)) (oI (dgt μ (q + 1))) else if oI (dgt μ (q + 1)) < 0 then f_X3_readChances_80 k8 σ (nI q) (nI hi) (nI l) (oI (dgt μ q)) (oI (dgt μ (q + 1))) else f_X3_readChances_80 k8 σ (nI q) (nI hi) (nI l) (((10 : Int32) * oI (dgt μ q)) + oI (dgt μ (q + 1))) (oI (dgt μ (q + 1))) := by
    unfold f_X3_readChances_42
    rw [hq, nI_1, k_figureAt h (by omega), Option.bind_some, k_figureAt h (by omega), Option.bind_some]
  have m1 : oI none < (0 : Int32) := by show (-1 : Int32) < 0; decide
  have bad : ∀ (v : Nat) (x : Int32), v < 200 → ¬ v ≤ hi → f_X3_readChances_80 k8 σ (nI q) (nI hi) (nI l) (nI v) x = some (nI q, σ) := fun v x hv hvh => by
    unfold f_X3_readChances_80
    rw [k_within, Option.bind_some, if_pos ((wi_nat (by omega) (by omega)).2 hvh)]
  have ok1 : ∀ (v : Nat), v ≤ hi → f_X3_readChances_80 k8 σ (nI q) (nI hi) (nI l) (nI v) (oI none) = k8 (ppS σ 15 l (nI v)) (nI (q + 1)) (nI v) (nI (l + 1)) := fun v hv => by
    unfold f_X3_readChances_80 f_X3_readChances_115
    rw [k_within, Option.bind_some, if_neg ((wi_nat (by omega) (by omega)).1 hv), if_pos i1, if_pos m1, q_cl (k := l) (by omega), nI_1, nI_1]
  have ok2 : ∀ (v b : Nat), v ≤ hi → b ≤ 9 → f_X3_readChances_80 k8 σ (nI q) (nI hi) (nI l) (nI v) (nI b) = k8 (ppS σ 15 l (nI v)) (nI (q + 2)) (nI v) (nI (l + 1)) := fun v b hv hb => by
    unfold f_X3_readChances_80 f_X3_readChances_115
    rw [k_within, Option.bind_some, if_neg ((wi_nat (by omega) (by omega)).1 hv), if_pos i1, if_neg (nI_nneg (by omega)), q_cl (k := l) (by omega), show (2 : Int32) = nI 2 from rfl, nI_add, nI_1]
  have two : ∀ a b : Nat, (10 : Int32) * nI a + nI b = nI (10 * a + b) := fun a b => by rw [show (10 : Int32) = nI 10 from rfl, pk_mul, nI_add]
  rw [base]
  rcases rdN_cases μ q hi with ⟨h1, h2 | ⟨a, h2, ⟨h3, h4⟩ | ⟨b, h3, h4⟩⟩⟩ | ⟨a, h2, ⟨h3, h4, h5⟩ | ⟨b, h3, h4, h5⟩⟩
  · refine ⟨fun r hr => ?_, fun v e hr => by rw [h1] at hr; cases hr⟩
    rw [h2, if_pos m1]
    unfold f_X3_readChances_80
    rw [k_within, Option.bind_some, if_pos]
    show wi (-1) 0 (nI hi) = 0
    unfold wi
    rw [if_pos (by decide)]
  · have ha := dgt_s h2
    refine ⟨fun r hr => ?_, fun v e hr => by rw [h1] at hr; cases hr⟩
    rw [h2, h3, if_neg (show ¬ oI (some a) < (0 : Int32) from nI_nneg (by omega)), if_pos m1]
    exact bad a _ (by omega) h4
  · have ha := dgt_s h2
    have hb := dgt_s h3
    refine ⟨fun r hr => ?_, fun v e hr => by rw [h1] at hr; cases hr⟩
    rw [h2, h3, if_neg (show ¬ oI (some a) < (0 : Int32) from nI_nneg (by omega)), if_neg (show ¬ oI (some b) < (0 : Int32) from nI_nneg (by omega)), show oI (some a) = nI a from rfl, show oI (some b) = nI b from rfl, two]
    exact bad _ _ (by omega) h4
  · have ha := dgt_s h2
    refine ⟨fun r hr => (by rw [h5] at hr; cases hr), fun v e hr => ?_⟩
    rw [h5] at hr
    injection hr with hr
    injection hr with e1 e2
    subst e1 e2
    rw [h2, h3, if_neg (show ¬ oI (some a) < (0 : Int32) from nI_nneg (by omega)), if_pos m1]
    exact ok1 a h4
  · have ha := dgt_s h2
    have hb := dgt_s h3
    refine ⟨fun r hr => (by rw [h5] at hr; cases hr), fun v e hr => ?_⟩
    rw [h5] at hr
    injection hr with hr
    injection hr with e1 e2
    subst e1 e2
    rw [h2, h3, if_neg (show ¬ oI (some a) < (0 : Int32) from nI_nneg (by omega)), if_neg (show ¬ oI (some b) < (0 : Int32) from nI_nneg (by omega)), show oI (some a) = nI a from rfl, show oI (some b) = nI b from rfl, two]
    exact ok2 _ b h4 hb.2.2
/-- three numbers with commas -/
def rdC (μ : pp_M) (p : Nat) : Nat ⊕ (Nat × Nat × Nat × Nat) := match rdN μ p 16 with
  | .inl q => .inl q
  | .inr (c0, e0) => if isC μ e0 44 then (match rdN μ (e0 + 1) c0 with
    | .inl q => .inl q
    | .inr (c1, e1) => if isC μ e1 44 then (match rdN μ (e1 + 1) c1 with
      | .inl q => .inl q
      | .inr (c2, e2) => .inr (c0, c1, c2, e2)) else .inl e1) else .inl e0
def prt (μ : pp_M) (p : Nat) : Nat ⊕ (Nat × Nat × Nat × Nat × Nat × Nat) := match dgt μ p with
  | none => .inl p
  | some f => if 1 ≤ f ∧ f ≤ 7 then (if isC μ (p + 1) 58 then (match dgt μ (p + 2) with
    | none => .inl (p + 2)
    | some t => if t ≤ 5 then (if isC μ (p + 3) 61 then (match rdC μ (p + 4) with
      | .inl q => .inl q
      | .inr (c0, c1, c2, e) => .inr (f, t, c0, c1, c2, e)) else .inl (p + 3)) else .inl (p + 2)) else .inl (p + 1)) else .inl p
theorem k_rc8 (h : LB σ μ) (n : Nat) {p hi l : Nat} (hp : p < 800) (hhi : hi ≤ 99) (hl : l < 3) : (l = 0 → f_X3_readChances_8 (n + 1) σ (nI p) (nI hi) (nI l) = f_X3_readChances_42 (f_X3_readChances_8 n) σ (nI hi) (nI l) (nI p) 0) ∧ (0 < l → isC μ p 44 → f_X3_readChances_8 (n + 1) σ (nI p) (nI hi) (nI l) = f_X3_readChances_42 (f_X3_readChances_8 n) σ (nI hi) (nI l) (nI p) 1) ∧ (0 < l → ¬ isC μ p 44 → f_X3_readChances_8 (n + 1) σ (nI p) (nI hi) (nI l) = some (nI p, σ)) := by
  have e0 : f_X3_readChances_8 (n + 1) σ (nI p) (nI hi) (nI l) = f_X3_readChances_8_B (f_X3_readChances_8 n) σ (nI p) (nI hi) (nI l) := rfl
  rw [e0]
  unfold f_X3_readChances_8_B f_X3_readChances_31
  rw [if_pos (show nI l < (3 : Int32) from nI_lt (b := 3) hl (by omega))]
  refine ⟨fun c => ?_, fun c hc => ?_, fun c hc => ?_⟩
  · subst c
    rw [if_neg (show ¬ (0 : Int32) < nI 0 by decide), if_neg (show ¬ (0 : Int32) < nI 0 by decide)]
  · rw [if_pos (show (0 : Int32) < nI l from nI_lt (a := 0) c (by omega)), (k_isAt h (by omega) 44).1 hc, Option.bind_some, if_neg (show ¬ (1 : Int32) = 0 by decide), if_pos (show (0 : Int32) < nI l from nI_lt (a := 0) c (by omega))]
  · rw [if_pos (show (0 : Int32) < nI l from nI_lt (a := 0) c (by omega)), (k_isAt h (by omega) 44).2 hc, Option.bind_some, if_pos rfl]
/-- the class's answer behind the last number -/
def endA (μ : pp_M) (e : Nat) : Int32 := if e < tN μ then (if isC μ e 59 then -1 else nI e) else -1
theorem k_rcE (h : LB σ μ) (n : Nat) {p : Nat} (hi : Int32) (hp : p < 800) : f_X3_readChances_8 (n + 1) σ (nI p) hi (nI 3) = some (endA μ p, ppS σ 13 4 (nI p)) := by
  have hN := h.2.1
  have h' : LB (ppS σ 13 4 (nI p)) μ := LB_fr h (fr_S (by unfold lnP; omega))
  show f_X3_readChances_8_B (f_X3_readChances_8 n) _ _ _ _ = _
  unfold f_X3_readChances_8_B f_X3_readChances_146 endA
  rw [if_neg (show ¬ nI 3 < (3 : Int32) from q_nlt 3), h'.1]
  by_cases c : p < tN μ
  · rw [if_pos (nI_lt c (by omega)), if_pos c]
    by_cases c2 : isC μ p 59
    · rw [(k_isAt h' (by omega) 59).1 c2, Option.bind_some, if_neg (show ¬ (1 : Int32) = 0 by decide), if_pos c2]
    · rw [(k_isAt h' (by omega) 59).2 c2, Option.bind_some, if_pos rfl, if_neg c2]
  · rw [if_neg (q_nl (by omega) (by omega)), if_neg c]
theorem k_rcAll (h : LB σ μ) {p : Nat} (hp : p < 100) (N : Nat) (hN : 3 < N) : ∃ σ' r, f_X3_readChances_8 N σ (nI p) (16 : Int32) (nI 0) = some (r, σ') ∧ fr (fun t i => t = 15 ∨ (t = 13 ∧ i = 4)) σ σ' ∧ (∀ q, rdC μ p = .inl q → r = nI q) ∧ (∀ c0 c1 c2 e, rdC μ p = .inr (c0, c1, c2, e) → r = endA μ e ∧ σ'.1 13 4 = nI e ∧ σ'.1 15 0 = nI c0 ∧ σ'.1 15 1 = nI c1 ∧ σ'.1 15 2 = nI c2 ∧ c0 ≤ 16 ∧ c1 ≤ c0 ∧ c2 ≤ c1 ∧ p + 5 ≤ e ∧ e ≤ tN μ) := by
  obtain ⟨n, rfl⟩ : ∃ n, N = n + 1 + 1 + 1 + 1 := ⟨N - 4, by omega⟩
  have hT := h.2.1
  unfold rdC
  rw [show (16 : Int32) = nI 16 from rfl, (k_rc8 h _ (p := p) (hi := 16) (l := 0) (by omega) (by omega) (by omega)).1 rfl]
  have a0 := k_rc42 h (f_X3_readChances_8 (n + 1 + 1 + 1)) (q := p) (b0 := p) (hi := 16) (l := 0) (b1 := 0) (Int32.add_zero _) (by omega) (by omega) (by omega)
  cases r0 : rdN μ p 16 with
  | inl q =>
    have := rdN_l r0
    subst this
    exact ⟨σ, nI q, a0.1 q r0, fr_rf, fun r hr => by injection hr with hr; rw [hr], fun _ _ _ _ hr => by cases hr⟩
  | inr x0 =>
    obtain ⟨c0, e0⟩ := x0
    have b0 := rdN_r r0
    have f0 : fr lnP σ (ppS σ 15 0 (nI c0)) := fr_S (Or.inl rfl)
    have h0 := LB_fr h f0
    have g0 : fr (fun t i => t = 15 ∨ (t = 13 ∧ i = 4)) σ (ppS σ 15 0 (nI c0)) := fr_S (Or.inl rfl)
    rw [a0.2 c0 e0 r0]
    have s1 := k_rc8 h0 (n + 1 + 1) (p := e0) (hi := c0) (l := 1) (by omega) (by omega) (by omega)
    by_cases k1 : isC μ e0 44
    · simp only [if_pos k1]
      rw [s1.2.1 (by omega) k1]
      have a1 := k_rc42 h0 (f_X3_readChances_8 (n + 1 + 1)) (q := e0 + 1) (b0 := e0) (hi := c0) (l := 1) (b1 := 1) (nI_1 e0) (by omega) (by omega) (by omega)
      cases r1 : rdN μ (e0 + 1) c0 with
      | inl q =>
        have := rdN_l r1
        subst this
        exact ⟨_, nI (e0 + 1), a1.1 _ r1, g0, fun r hr => by injection hr with hr; rw [hr], fun _ _ _ _ hr => by cases hr⟩
      | inr x1 =>
        obtain ⟨c1, e1⟩ := x1
        have b1 := rdN_r r1
        have f1 : fr lnP σ (ppS (ppS σ 15 0 (nI c0)) 15 1 (nI c1)) := fr_tr f0 (fr_S (Or.inl rfl))
        have h1 := LB_fr h f1
        have g1 : fr (fun t i => t = 15 ∨ (t = 13 ∧ i = 4)) σ (ppS (ppS σ 15 0 (nI c0)) 15 1 (nI c1)) := fr_tr g0 (fr_S (Or.inl rfl))
        rw [a1.2 c1 e1 r1]
        have s2 := k_rc8 h1 (n + 1) (p := e1) (hi := c1) (l := 2) (by omega) (by omega) (by omega)
        by_cases k2 : isC μ e1 44
        · simp only [if_pos k2]
          rw [s2.2.1 (by omega) k2]
          have a2 := k_rc42 h1 (f_X3_readChances_8 (n + 1)) (q := e1 + 1) (b0 := e1) (hi := c1) (l := 2) (b1 := 1) (nI_1 e1) (by omega) (by omega) (by omega)
          cases r2 : rdN μ (e1 + 1) c1 with
          | inl q =>
            have := rdN_l r2
            subst this
            exact ⟨_, nI (e1 + 1), a2.1 _ r2, g1, fun r hr => by injection hr with hr; rw [hr], fun _ _ _ _ hr => by cases hr⟩
          | inr x2 =>
            obtain ⟨c2, e2⟩ := x2
            have b2 := rdN_r r2
            have f2 : fr lnP σ (ppS (ppS (ppS σ 15 0 (nI c0)) 15 1 (nI c1)) 15 2 (nI c2)) := fr_tr f1 (fr_S (Or.inl rfl))
            have h2 := LB_fr h f2
            rw [a2.2 c2 e2 r2, show nI (2 + 1) = nI 3 from rfl, k_rcE h2 n (nI c2) (by omega)]
            refine ⟨_, _, rfl, fr_tr g1 (fr_tr (fr_S (Or.inl rfl)) (fr_S (Or.inr ⟨rfl, rfl⟩))), fun r hr => (by cases hr), fun d0 d1 d2 e hr => ?_⟩
            injection hr with hr
            injection hr with u0 hr
            injection hr with u1 hr
            injection hr with u2 u3
            subst u0 u1 u2 u3
            refine ⟨rfl, qs_same _ _ _ _, ?_, ?_, ?_, by omega, by omega, by omega, by omega, by omega⟩
            · rw [qs_tok (by omega), qs_ne (by omega), qs_ne (by omega), qs_same]
            · rw [qs_tok (by omega), qs_ne (by omega), qs_same]
            · rw [qs_tok (by omega), qs_same]
        · simp only [if_neg k2]
          rw [s2.2.2 (by omega) k2]
          exact ⟨_, _, rfl, g1, fun r hr => by injection hr with hr; rw [hr], fun _ _ _ _ hr => by cases hr⟩
    · simp only [if_neg k1]
      rw [s1.2.2 (by omega) k1]
      exact ⟨_, _, rfl, g0, fun r hr => by injection hr with hr; rw [hr], fun _ _ _ _ hr => by cases hr⟩
theorem wi_lo {o : Option Nat} {lo hi : Nat} (ho : ∀ a, o = some a → a ≤ 9) (hlo : lo < 100) (hhi : hi < 100) : (∀ a, o = some a → lo ≤ a ∧ a ≤ hi → ¬ wi (oI o) (nI lo) (nI hi) = 0) ∧ ((∀ a, o = some a → ¬ (lo ≤ a ∧ a ≤ hi)) → wi (oI o) (nI lo) (nI hi) = 0) := by
  refine ⟨fun a ha hr => ?_, fun hn => ?_⟩
  · have := ho a ha
    rw [ha, show oI (some a) = nI a from rfl, wi_1 (by rw [nI_toInt (by omega), nI_toInt (by omega)]; omega) (by rw [nI_toInt (by omega), nI_toInt (by omega)]; omega)]
    decide
  · apply Classical.byContradiction
    intro r
    have h := wi_0 r
    rw [nI_toInt (by omega), nI_toInt (by omega)] at h
    cases o with
    | none =>
      rw [show (oI none).toInt = -1 from rfl] at h
      omega
    | some a =>
      have := ho a rfl
      rw [show oI (some a) = nI a from rfl, nI_toInt (by omega)] at h
      exact hn a rfl (by omega)
/-- a part, read by the class -/
theorem k_readPart (h : LB σ μ) {p : Nat} (hp : p < 90) : ∃ σ' r, f_X3_readPart σ (nI p) = some (r, σ') ∧ fr lnP σ σ' ∧ (∀ q, prt μ p = .inl q → r = nI q) ∧ (∀ f t c0 c1 c2 e, prt μ p = .inr (f, t, c0, c1, c2, e) → r = endA μ e ∧ σ'.1 13 2 = nI f ∧ σ'.1 13 3 = nI t ∧ σ'.1 13 4 = nI e ∧ σ'.1 15 0 = nI c0 ∧ σ'.1 15 1 = nI c1 ∧ σ'.1 15 2 = nI c2 ∧ 1 ≤ f ∧ f ≤ 7 ∧ t ≤ 5 ∧ c0 ≤ 16 ∧ c1 ≤ c0 ∧ c2 ≤ c1 ∧ p + 9 ≤ e ∧ e ≤ tN μ) := by
  unfold f_X3_readPart prt
  have f1 : fr lnP σ (ppS σ 13 2 (oI (dgt μ p))) := fr_S (Or.inr ⟨rfl, Or.inl rfl⟩)
  have h1 := LB_fr h f1
  rw [k_figureAt h (by omega), Option.bind_some, k_isFarm, Option.bind_some, qs_same]
  have w1 := wi_lo (o := dgt μ p) (lo := 1) (hi := 7) (fun a ha => (dgt_s ha).2.2) (by omega) (by omega)
  cases d1 : dgt μ p with
  | none =>
    rw [d1] at w1 f1
    rw [if_pos (show wi (oI none) 1 7 = 0 from w1.2 (fun a ha => by cases ha))]
    exact ⟨_, _, rfl, f1, fun q hq => by injection hq with hq; rw [hq], fun _ _ _ _ _ _ hq => by cases hq⟩
  | some f =>
    rw [d1] at w1 f1 h1
    by_cases k1 : 1 ≤ f ∧ f ≤ 7
    · simp only [if_pos k1]
      rw [if_neg (show ¬ wi (oI (some f)) 1 7 = 0 from w1.1 f rfl k1)]
      rw [nI_1]
      by_cases k2 : isC μ (p + 1) 58
      · simp only [if_pos k2]
        rw [(k_isAt h1 (by omega) 58).1 k2, Option.bind_some, if_neg (show ¬ (1 : Int32) = 0 by decide), show nI p + (2 : Int32) = nI (p + 2) from nI_add p 2, show nI p + (3 : Int32) = nI (p + 3) from nI_add p 3, show nI p + (4 : Int32) = nI (p + 4) from nI_add p 4]
        have f2 : fr lnP σ (ppS (ppS σ 13 2 (oI (some f))) 13 3 (oI (dgt μ (p + 2)))) := fr_tr f1 (fr_S (Or.inr ⟨rfl, Or.inr (Or.inl rfl)⟩))
        have h2 := LB_fr h f2
        rw [k_figureAt h1 (by omega), Option.bind_some, k_isThing, Option.bind_some, qs_same]
        have w2 := wi_lo (o := dgt μ (p + 2)) (lo := 0) (hi := 5) (fun a ha => (dgt_s ha).2.2) (by omega) (by omega)
        cases d2 : dgt μ (p + 2) with
        | none =>
          rw [d2] at w2 f2
          rw [if_pos (show wi (oI none) 0 5 = 0 from w2.2 (fun a ha => by cases ha))]
          exact ⟨_, _, rfl, f2, fun q hq => by injection hq with hq; rw [hq], fun _ _ _ _ _ _ hq => by cases hq⟩
        | some t =>
          rw [d2] at w2 f2 h2
          by_cases k3 : t ≤ 5
          · simp only [if_pos k3]
            rw [if_neg (show ¬ wi (oI (some t)) 0 5 = 0 from w2.1 t rfl ⟨by omega, k3⟩)]
            by_cases k4 : isC μ (p + 3) 61
            · simp only [if_pos k4]
              rw [(k_isAt h2 (by omega) 61).1 k4, Option.bind_some, if_neg (show ¬ (1 : Int32) = 0 by decide)]
              obtain ⟨σ', r, e1, e2, e3, e4⟩ := k_rcAll h2 (p := p + 4) (by omega) 100000 (by omega)
              unfold f_X3_readChances
              rw [show f_X3_readChances_8 100000 (ppS (ppS σ 13 2 (oI (some f))) 13 3 (oI (some t))) (nI (p + 4)) 16 0 = _ from e1, Option.bind_some]
              refine ⟨σ', r, rfl, fr_tr f2 (fr_mono e2 (fun x i q => by unfold lnP; omega)), fun q hq => ?_, fun f' t' c0 c1 c2 e hq => ?_⟩
              · cases hr : rdC μ (p + 4) with
                | inl q' =>
                  rw [hr] at hq
                  injection hq with hq
                  rw [← hq]
                  exact e3 q' hr
                | inr x =>
                  rw [hr] at hq
                  cases hq
              · cases hr : rdC μ (p + 4) with
                | inl q' => rw [hr] at hq; cases hq
                | inr x =>
                  obtain ⟨d0, d1', d2', e'⟩ := x
                  rw [hr] at hq
                  injection hq with hq
                  injection hq with u0 hq
                  injection hq with u1 hq
                  injection hq with u2 hq
                  injection hq with u3 hq
                  injection hq with u4 u5
                  subst u0 u1 u2 u3 u4 u5
                  have := e4 d0 d1' d2' e' hr
                  refine ⟨this.1, ?_, ?_, this.2.1, this.2.2.1, this.2.2.2.1, this.2.2.2.2.1, k1.1, k1.2, k3, this.2.2.2.2.2.1, this.2.2.2.2.2.2.1, this.2.2.2.2.2.2.2.1, by omega, this.2.2.2.2.2.2.2.2.2⟩
                  · rw [(e2 13 2 (by omega)).1, qs_ne (by omega), qs_same]; rfl
                  · rw [(e2 13 3 (by omega)).1, qs_same]; rfl
            · simp only [if_neg k4]
              rw [(k_isAt h2 (by omega) 61).2 k4, Option.bind_some, if_pos rfl]
              exact ⟨_, _, rfl, f2, fun q hq => by injection hq with hq; rw [hq], fun _ _ _ _ _ _ hq => by cases hq⟩
          · simp only [if_neg k3]
            rw [if_pos (show wi (oI (some t)) 0 5 = 0 from w2.2 (fun a ha q => by injection ha with ha; omega))]
            exact ⟨_, _, rfl, f2, fun q hq => by injection hq with hq; rw [hq], fun _ _ _ _ _ _ hq => by cases hq⟩
      · simp only [if_neg k2]
        rw [(k_isAt h1 (by omega) 58).2 k2, Option.bind_some, if_pos rfl]
        exact ⟨_, _, rfl, f1, fun q hq => by injection hq with hq; rw [hq], fun _ _ _ _ _ _ hq => by cases hq⟩
    · simp only [if_neg k1]
      rw [if_pos (show wi (oI (some f)) 1 7 = 0 from w1.2 (fun a ha q => by injection ha with ha; rw [← ha] at q; exact k1 q))]
      exact ⟨_, _, rfl, f1, fun q hq => by injection hq with hq; rw [hq], fun _ _ _ _ _ _ hq => by cases hq⟩
end PARSE
