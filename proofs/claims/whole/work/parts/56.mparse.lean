/-! the line in the reference -/
section MPARSE
variable {Ca : pp_M → pp_M → Prop} {σ μ ν : pp_M}
/-- the text is the same, and its length -/
def TX (ν μ : pp_M) : Prop := ν.1 40 11 = nI (tN μ) ∧ tN μ ≤ 40 ∧ ∀ i, ν.1 49 i = μ.1 49 i
def F2 (t i : Nat) : Prop := t = 40 ∧ (i = 13 ∨ i = 14)
def F5 (t i : Nat) : Prop := (t = 40 ∧ (i = 13 ∨ i = 14 ∨ i = 15)) ∨ t = 50 ∨ t = 51 ∨ t = 52
theorem F5_sM {μ μ' : pp_M} (h : fr F5 μ μ') : fr sM μ μ' := fr_mono h (fun t i q => by unfold F5 at q; unfold sM; omega)
theorem F2_F5 {μ μ' : pp_M} (h : fr F2 μ μ') : fr F5 μ μ' := fr_mono h (fun t i q => by unfold F2 at q; unfold F5; omega)
theorem TX_fr {ν ν' : pp_M} (h : TX ν μ) (hf : fr F5 ν ν') : TX ν' μ := ⟨by rw [(hf 40 11 (by unfold F5; omega)).1]; exact h.1, h.2.1, fun i => by rw [(hf 49 i (by unfold F5; omega)).1]; exact h.2.2 i⟩
theorem m_byteNow (h : TX ν μ) {p : Nat} (hp : p < 1000) (h13 : ν.1 40 13 = nI p) : f_X9_byteNow ν = some (if p < tN μ then μ.1 49 p else -1, ν) := by
  have hN := h.2.1
  unfold f_X9_byteNow
  rw [h13, h.1]
  by_cases c : p < tN μ
  · have i1 : pp_ix (nI p) 40 := q_ix (by omega) (by omega)
    rw [if_pos (nI_lt c (by omega)), if_pos i1, q_cl (k := p) (by omega), h.2.2, if_pos c]
  · rw [if_neg (q_nl (by omega) (by omega)), if_neg c]
theorem m1_ne {r : Nat} (hr : r < 1000) : ¬ nI r = (-1 : Int32) := fun q => by
  have := congrArg Int32.toInt q
  rw [nI_toInt (by omega), show (-1 : Int32).toInt = -1 from rfl] at this
  omega
theorem m_expects (h : TX ν μ) {p : Nat} (hp : p < 1000) (h13 : ν.1 40 13 = nI p) (h14 : ν.1 40 14 = -1) {c : Int32} (hc : c ≠ -1) : (isC μ p c → f_X9_expects ν c = some (ppS ν 40 13 (nI (p + 1)))) ∧ (¬ isC μ p c → f_X9_expects ν c = some (ppS (ppS ν 40 14 (nI p)) 40 13 (nI (p + 1)))) := by
  unfold f_X9_expects
  rw [if_pos h14, m_byteNow h hp h13, Option.bind_some]
  have e1 : (ppS ν 40 14 (ν.1 40 13)).1 40 13 = nI p := by rw [qs_ne (by omega), h13]
  rw [e1, h13, nI_1]
  by_cases c1 : p < tN μ
  · rw [if_pos c1]
    by_cases c2 : μ.1 49 p = c
    · rw [if_pos c2]; exact ⟨fun _ => rfl, fun q => absurd ⟨c1, c2⟩ q⟩
    · rw [if_neg c2]; exact ⟨fun q => absurd q.2 c2, fun _ => rfl⟩
  · rw [if_neg c1, if_neg (fun q => hc q.symm)]
    exact ⟨fun q => absurd q.1 c1, fun _ => rfl⟩
def mE (ν : pp_M) : pp_M := ppS ν 40 13 (ν.1 40 13 + 1)
theorem mE_14 (ν : pp_M) : (mE ν).1 40 14 = ν.1 40 14 := qs_ne (by omega)
theorem mE_fr (ν : pp_M) : fr F2 ν (mE ν) := fr_S ⟨rfl, Or.inl rfl⟩
theorem m_expF {r : Nat} (hr : r < 1000) (h14 : ν.1 40 14 = nI r) (c : Int32) : f_X9_expects ν c = some (mE ν) := by
  unfold f_X9_expects
  rw [if_neg (by rw [h14]; exact m1_ne hr)]
  rfl
theorem m_numF {r : Nat} (hr : r < 1000) (h14 : ν.1 40 14 = nI r) (a b c : Int32) : f_X9_number ν a b c = some (0, ν) := by
  have key : ∀ N, 0 < N → f_X9_number_9 N ν a b c (ν.1 40 13) 0 = some (0, ν) := fun N hN => by
    obtain ⟨n, rfl⟩ : ∃ n, N = n + 1 := ⟨N - 1, by omega⟩
    show f_X9_number_9_B (f_X9_number_9 n) _ _ _ _ _ _ = _
    unfold f_X9_number_9_B f_X9_number_74
    rw [if_neg (by rw [h14]; exact m1_ne hr), if_neg (by rw [h14]; exact m1_ne hr)]
  exact key 100000 (by omega)
/-- one step of a number -/
theorem m_num9 (h : TX ν μ) (n : Nat) {fg lo hi p q v : Nat} (hp : p < 900) (hfg : fg ≤ 2) (hq : q < 900) (hv : v < 100) (h13 : ν.1 40 13 = nI q) (h14 : ν.1 40 14 = -1) : (q < p + fg → ∀ a, dgt μ q = some a → f_X9_number_9 (n + 1) ν (nI fg) (nI lo) (nI hi) (nI p) (nI v) = f_X9_number_9 n (ppS ν 40 13 (nI (q + 1))) (nI fg) (nI lo) (nI hi) (nI p) (nI (10 * v + a))) ∧ (q < p + fg → dgt μ q = none → f_X9_number_9 (n + 1) ν (nI fg) (nI lo) (nI hi) (nI p) (nI v) = f_X9_number_74 ν (nI lo) (nI hi) (nI p) (nI v)) ∧ (¬ q < p + fg → f_X9_number_9 (n + 1) ν (nI fg) (nI lo) (nI hi) (nI p) (nI v) = f_X9_number_74 ν (nI lo) (nI hi) (nI p) (nI v)) := by
  have e0 : f_X9_number_9 (n + 1) ν (nI fg) (nI lo) (nI hi) (nI p) (nI v) = f_X9_number_9_B (f_X9_number_9 n) ν (nI fg) (nI lo) (nI hi) (nI p) (nI v) := rfl
  rw [e0]
  unfold f_X9_number_9_B
  rw [if_pos h14, h13, nI_add, m_byteNow h (show q < 1000 by omega) h13, Option.bind_some, m_byteNow h (show q < 1000 by omega) h13, Option.bind_some, m_byteNow h (show q < 1000 by omega) h13, Option.bind_some]
  refine ⟨fun c a ha => ?_, fun c hd => ?_, fun c => ?_⟩
  · have hs := dgt_s ha
    rw [if_pos (nI_lt c (by omega)), if_pos hs.1, hs.2.1]
    rw [if_neg (show ¬ nI (48 + a) < (48 : Int32) from q_nl (b := 48) (by omega) (by omega)), if_neg (show ¬ (57 : Int32) < nI (48 + a) from q_nl (a := 57) (by omega) (by omega))]
    rw [h13, nI_1, show (10 : Int32) = nI 10 from rfl, show (48 : Int32) = nI 48 from rfl, pk_mul, nI_add, pk_sub (by omega), show 10 * v + (48 + a) - 48 = 10 * v + a by omega]
  · have hn := dgt_n hd
    rw [if_pos (nI_lt c (by omega))]
    by_cases c1 : q < tN μ
    · rw [if_pos c1]
      by_cases c2 : μ.1 49 q < 48
      · rw [if_pos c2]
      · rw [if_neg c2, if_pos (show (57 : Int32) < μ.1 49 q by
          rw [q_lt32] at c2 ⊢
          rw [show (48 : Int32).toInt = 48 from rfl] at c2
          show (57 : Int) < _
          omega)]
    · rw [if_neg c1, if_pos (show (-1 : Int32) < 48 by decide)]
  · rw [if_neg (q_nl (by omega) (by omega))]
/-- the end of a number -/
theorem m_num74 {lo hi p q v : Nat} (hlo : lo < 100) (hhi : hi < 100) (hp : p < 900) (hq : q < 900) (hv : v < 1000) (h13 : ν.1 40 13 = nI q) (h14 : ν.1 40 14 = -1) : (q = p ∨ ¬ (lo ≤ v ∧ v ≤ hi) → f_X9_number_74 ν (nI lo) (nI hi) (nI p) (nI v) = some (nI v, ppS ν 40 14 (nI p))) ∧ (q ≠ p → lo ≤ v ∧ v ≤ hi → f_X9_number_74 ν (nI lo) (nI hi) (nI p) (nI v) = some (nI v, ν)) := by
  unfold f_X9_number_74
  rw [if_pos h14, h13, m_in, Option.bind_some]
  by_cases c : q = p
  · rw [if_pos (by rw [c])]
    exact ⟨fun _ => rfl, fun q' => absurd c q'⟩
  · rw [if_neg (fun r => c ((nI_eqI (by omega) (by omega)).mp r))]
    by_cases c2 : lo ≤ v ∧ v ≤ hi
    · rw [wi_1 (by rw [nI_toInt (by omega), nI_toInt (by omega)]; omega) (by rw [nI_toInt (by omega), nI_toInt (by omega)]; omega), if_neg (show ¬ (1 : Int32) = 0 by decide)]
      exact ⟨fun r => by rcases r with r | r; exact absurd r c; exact absurd c2 r, fun _ _ => rfl⟩
    · rw [if_pos (Classical.byContradiction fun r => by
        have := wi_0 r
        rw [nI_toInt (by omega), nI_toInt (by omega), nI_toInt (by omega)] at this
        exact c2 (by omega))]
      exact ⟨fun _ => rfl, fun _ r => absurd r c2⟩
theorem m_num1 (h : TX ν μ) {lo hi p : Nat} (hlo : lo < 100) (hhi : hi < 100) (hp : p < 800) (h13 : ν.1 40 13 = nI p) (h14 : ν.1 40 14 = -1) : (∀ a, dgt μ p = some a → lo ≤ a ∧ a ≤ hi → f_X9_number ν 1 (nI lo) (nI hi) = some (nI a, ppS ν 40 13 (nI (p + 1)))) ∧ ((∀ a, dgt μ p = some a → ¬ (lo ≤ a ∧ a ≤ hi)) → ∃ v ν', f_X9_number ν 1 (nI lo) (nI hi) = some (v, ν') ∧ ν'.1 40 14 = nI p ∧ fr F2 ν ν') := by
  have key : ∀ N, 2 < N → (∀ a, dgt μ p = some a → lo ≤ a ∧ a ≤ hi → f_X9_number_9 N ν (nI 1) (nI lo) (nI hi) (nI p) (nI 0) = some (nI a, ppS ν 40 13 (nI (p + 1)))) ∧ ((∀ a, dgt μ p = some a → ¬ (lo ≤ a ∧ a ≤ hi)) → ∃ v ν', f_X9_number_9 N ν (nI 1) (nI lo) (nI hi) (nI p) (nI 0) = some (v, ν') ∧ ν'.1 40 14 = nI p ∧ fr F2 ν ν') := by
    intro N hN
    obtain ⟨n, rfl⟩ : ∃ n, N = n + 1 + 1 := ⟨N - 2, by omega⟩
    have s0 := m_num9 h (n + 1) (fg := 1) (lo := lo) (hi := hi) (p := p) (q := p) (v := 0) (by omega) (by omega) (by omega) (by omega) h13 h14
    have f1 : fr F2 ν (ppS ν 40 13 (nI (p + 1))) := fr_S ⟨rfl, Or.inl rfl⟩
    have h1 := TX_fr h (F2_F5 f1)
    have h141 : (ppS ν 40 13 (nI (p + 1))).1 40 14 = -1 := by rw [qs_ne (by omega)]; exact h14
    have two : ∀ a, dgt μ p = some a → f_X9_number_9 (n + 1 + 1) ν (nI 1) (nI lo) (nI hi) (nI p) (nI 0) = f_X9_number_74 (ppS ν 40 13 (nI (p + 1))) (nI lo) (nI hi) (nI p) (nI a) := fun a ha => by
      have := (dgt_s ha).2.2
      rw [s0.1 (by omega) a ha, (m_num9 h1 n (fg := 1) (lo := lo) (hi := hi) (p := p) (q := p + 1) (v := 10 * 0 + a) (by omega) (by omega) (by omega) (by omega) (qs_same _ _ _ _) h141).2.2 (by omega), show 10 * 0 + a = a by omega]
    refine ⟨fun a ha hr => ?_, fun hn => ?_⟩
    · have := (dgt_s ha).2.2
      rw [two a ha]
      exact (m_num74 hlo hhi (by omega) (q := p + 1) (by omega) (by omega) (qs_same _ _ _ _) h141).2 (by omega) hr
    · cases hd : dgt μ p with
      | none =>
        rw [s0.2.1 (by omega) hd, (m_num74 hlo hhi (by omega) (q := p) (by omega) (by omega) h13 h14).1 (Or.inl rfl)]
        exact ⟨_, _, rfl, qs_same _ _ _ _, fr_S ⟨rfl, Or.inr rfl⟩⟩
      | some a =>
        have := (dgt_s hd).2.2
        rw [two a hd, (m_num74 hlo hhi (by omega) (q := p + 1) (by omega) (by omega) (qs_same _ _ _ _) h141).1 (Or.inr (hn a hd))]
        exact ⟨_, _, rfl, qs_same _ _ _ _, fr_tr f1 (fr_S ⟨rfl, Or.inr rfl⟩)⟩
  have k := key 100000 (by omega)
  unfold f_X9_number
  rw [h13]
  exact k
theorem m_num2 (h : TX ν μ) {hi p : Nat} (hhi : hi < 100) (hp : p < 800) (h13 : ν.1 40 13 = nI p) (h14 : ν.1 40 14 = -1) : (∀ v e, rdN μ p hi = .inr (v, e) → f_X9_number ν 2 0 (nI hi) = some (nI v, if e = p + 1 then ppS ν 40 13 (nI e) else ppS (ppS ν 40 13 (nI (p + 1))) 40 13 (nI e))) ∧ (∀ q, rdN μ p hi = .inl q → ∃ v ν', f_X9_number ν 2 0 (nI hi) = some (v, ν') ∧ ν'.1 40 14 = nI q ∧ fr F2 ν ν') := by
  have key : ∀ N, 3 < N → (∀ v e, rdN μ p hi = .inr (v, e) → f_X9_number_9 N ν (nI 2) (nI 0) (nI hi) (nI p) (nI 0) = some (nI v, if e = p + 1 then ppS ν 40 13 (nI e) else ppS (ppS ν 40 13 (nI (p + 1))) 40 13 (nI e))) ∧ (∀ q, rdN μ p hi = .inl q → ∃ v ν', f_X9_number_9 N ν (nI 2) (nI 0) (nI hi) (nI p) (nI 0) = some (v, ν') ∧ ν'.1 40 14 = nI q ∧ fr F2 ν ν') := by
    intro N hN
    obtain ⟨n, rfl⟩ : ∃ n, N = n + 1 + 1 + 1 := ⟨N - 3, by omega⟩
    have s0 := m_num9 h (n + 1 + 1) (fg := 2) (lo := 0) (hi := hi) (p := p) (q := p) (v := 0) (by omega) (by omega) (by omega) (by omega) h13 h14
    have f1 : fr F2 ν (ppS ν 40 13 (nI (p + 1))) := fr_S ⟨rfl, Or.inl rfl⟩
    have h1 := TX_fr h (F2_F5 f1)
    have h141 : (ppS ν 40 13 (nI (p + 1))).1 40 14 = -1 := by rw [qs_ne (by omega)]; exact h14
    have f2 : fr F2 ν (ppS (ppS ν 40 13 (nI (p + 1))) 40 13 (nI (p + 2))) := fr_tr f1 (fr_S ⟨rfl, Or.inl rfl⟩)
    have h2 := TX_fr h (F2_F5 f2)
    have h142 : (ppS (ppS ν 40 13 (nI (p + 1))) 40 13 (nI (p + 2))).1 40 14 = -1 := by rw [qs_ne (by omega)]; exact h141
    have one : ∀ a, dgt μ p = some a → dgt μ (p + 1) = none → f_X9_number_9 (n + 1 + 1 + 1) ν (nI 2) (nI 0) (nI hi) (nI p) (nI 0) = f_X9_number_74 (ppS ν 40 13 (nI (p + 1))) (nI 0) (nI hi) (nI p) (nI a) := fun a ha hb => by
      have := (dgt_s ha).2.2
      rw [s0.1 (by omega) a ha, (m_num9 h1 (n + 1) (fg := 2) (lo := 0) (hi := hi) (p := p) (q := p + 1) (v := 10 * 0 + a) (by omega) (by omega) (by omega) (by omega) (qs_same _ _ _ _) h141).2.1 (by omega) hb, show 10 * 0 + a = a by omega]
    have two : ∀ a b, dgt μ p = some a → dgt μ (p + 1) = some b → f_X9_number_9 (n + 1 + 1 + 1) ν (nI 2) (nI 0) (nI hi) (nI p) (nI 0) = f_X9_number_74 (ppS (ppS ν 40 13 (nI (p + 1))) 40 13 (nI (p + 2))) (nI 0) (nI hi) (nI p) (nI (10 * a + b)) := fun a b ha hb => by
      have := (dgt_s ha).2.2
      have := (dgt_s hb).2.2
      rw [s0.1 (by omega) a ha, (m_num9 h1 (n + 1) (fg := 2) (lo := 0) (hi := hi) (p := p) (q := p + 1) (v := 10 * 0 + a) (by omega) (by omega) (by omega) (by omega) (qs_same _ _ _ _) h141).1 (by omega) b hb, show p + 1 + 1 = p + 2 from rfl, (m_num9 h2 n (fg := 2) (lo := 0) (hi := hi) (p := p) (q := p + 2) (v := 10 * (10 * 0 + a) + b) (by omega) (by omega) (by omega) (by omega) (qs_same _ _ _ _) h142).2.2 (by omega), show 10 * (10 * 0 + a) + b = 10 * a + b by omega]
    rcases rdN_cases μ p hi with ⟨g1, g2 | ⟨a, g2, ⟨g3, g4⟩ | ⟨b, g3, g4⟩⟩⟩ | ⟨a, g2, ⟨g3, g4, g5⟩ | ⟨b, g3, g4, g5⟩⟩
    · refine ⟨fun v e hr => (by rw [g1] at hr; cases hr), fun q hr => ?_⟩
      rw [g1] at hr
      injection hr with hr
      subst hr
      rw [s0.2.1 (by omega) g2, (m_num74 (by omega) hhi (by omega) (q := p) (by omega) (by omega) h13 h14).1 (Or.inl rfl)]
      exact ⟨_, _, rfl, qs_same _ _ _ _, fr_S ⟨rfl, Or.inr rfl⟩⟩
    · refine ⟨fun v e hr => (by rw [g1] at hr; cases hr), fun q hr => ?_⟩
      rw [g1] at hr
      injection hr with hr
      subst hr
      have := (dgt_s g2).2.2
      rw [one a g2 g3, (m_num74 (by omega) hhi (by omega) (q := p + 1) (by omega) (by omega) (qs_same _ _ _ _) h141).1 (Or.inr (fun q => g4 q.2))]
      exact ⟨_, _, rfl, qs_same _ _ _ _, fr_tr f1 (fr_S ⟨rfl, Or.inr rfl⟩)⟩
    · refine ⟨fun v e hr => (by rw [g1] at hr; cases hr), fun q hr => ?_⟩
      rw [g1] at hr
      injection hr with hr
      subst hr
      have := (dgt_s g2).2.2
      have := (dgt_s g3).2.2
      rw [two a b g2 g3, (m_num74 (by omega) hhi (by omega) (q := p + 2) (by omega) (by omega) (qs_same _ _ _ _) h142).1 (Or.inr (fun q => g4 q.2))]
      exact ⟨_, _, rfl, qs_same _ _ _ _, fr_tr f2 (fr_S ⟨rfl, Or.inr rfl⟩)⟩
    · refine ⟨fun v e hr => ?_, fun q hr => (by rw [g5] at hr; cases hr)⟩
      rw [g5] at hr
      injection hr with hr
      injection hr with e1 e2
      subst e1 e2
      have := (dgt_s g2).2.2
      rw [one a g2 g3, if_pos rfl]
      exact (m_num74 (by omega) hhi (by omega) (q := p + 1) (by omega) (by omega) (qs_same _ _ _ _) h141).2 (by omega) ⟨by omega, g4⟩
    · refine ⟨fun v e hr => ?_, fun q hr => (by rw [g5] at hr; cases hr)⟩
      rw [g5] at hr
      injection hr with hr
      injection hr with e1 e2
      subst e1 e2
      have := (dgt_s g2).2.2
      have := (dgt_s g3).2.2
      rw [two a b g2 g3, if_neg (by omega)]
      exact (m_num74 (by omega) hhi (by omega) (q := p + 2) (by omega) (by omega) (qs_same _ _ _ _) h142).2 (by omega) ⟨by omega, g4⟩
  have k := key 100000 (by omega)
  unfold f_X9_number
  rw [h13]
  exact k
/-- the same, by what it does -/
theorem m_num2r (h : TX ν μ) {hi p : Nat} (hhi : hi < 100) (hp : p < 800) (h13 : ν.1 40 13 = nI p) (h14 : ν.1 40 14 = -1) {v e : Nat} (hr : rdN μ p hi = .inr (v, e)) : ∃ ν', f_X9_number ν 2 0 (nI hi) = some (nI v, ν') ∧ fr F2 ν ν' ∧ ν'.1 40 13 = nI e ∧ ν'.1 40 14 = -1 := by
  refine ⟨_, (m_num2 h hhi hp h13 h14).1 v e hr, ?_, ?_, ?_⟩
  · split
    · exact fr_S ⟨rfl, Or.inl rfl⟩
    · exact fr_tr (fr_S ⟨rfl, Or.inl rfl⟩) (fr_S ⟨rfl, Or.inl rfl⟩)
  · split <;> rw [qs_same]
  · split
    · rw [qs_ne (by omega)]; exact h14
    · rw [qs_ne (by omega), qs_ne (by omega)]; exact h14
/-- behind a fault the rest of a part does nothing that shows: d expects -/
theorem mE_14n {r : Nat} (h : ν.1 40 14 = nI r) : (mE ν).1 40 14 = nI r := by rw [mE_14]; exact h
theorem m_part (h : TX ν μ) {p k : Nat} (hp : p < 90) (hk : k < 10) (h13 : ν.1 40 13 = nI p) (h14 : ν.1 40 14 = -1) (h15 : ν.1 40 15 = nI k) : ∃ ν', f_X9_part ν = some ν' ∧ fr F5 ν ν' ∧ (∀ q, prt μ p = .inl q → ν'.1 40 14 = nI q ∧ q < 1000) ∧ (∀ f t c0 c1 c2 e, prt μ p = .inr (f, t, c0, c1, c2, e) → ν'.1 40 14 = -1 ∧ ν'.1 40 13 = nI e ∧ ν'.1 40 15 = nI (k + 1) ∧ ν'.1 50 k = nI f ∧ ν'.1 51 k = nI t ∧ ν'.1 52 (3 * k) = nI c0 ∧ ν'.1 52 (3 * k + 1) = nI c1 ∧ ν'.1 52 (3 * k + 2) = nI c2 ∧ fr (fun x i => (x = 40 ∧ (i = 13 ∨ i = 14 ∨ i = 15)) ∨ (x = 50 ∧ i = k) ∨ (x = 51 ∧ i = k) ∨ (x = 52 ∧ 3 * k ≤ i ∧ i < 3 * k + 3)) ν ν') := by
  have hN := h.2.1
  unfold f_X9_part prt rdC
  have n1 := m_num1 h (lo := 1) (hi := 7) (by omega) (by omega) (show p < 800 by omega) h13 h14
  by_cases k1 : ∃ f, dgt μ p = some f ∧ 1 ≤ f ∧ f ≤ 7
  · obtain ⟨f, d1, k1⟩ := k1
    simp only [d1, if_pos k1]
    rw [show f_X9_number ν 1 1 7 = _ from n1.1 f d1 k1, Option.bind_some]
    have F1 : fr F2 ν (ppS ν 40 13 (nI (p + 1))) := fr_S ⟨rfl, Or.inl rfl⟩
    have X1 := TX_fr h (F2_F5 F1)
    have a1 : (ppS ν 40 13 (nI (p + 1))).1 40 13 = nI (p + 1) := qs_same _ _ _ _
    have b1 : (ppS ν 40 13 (nI (p + 1))).1 40 14 = -1 := by rw [qs_ne (by omega)]; exact h14
    generalize ppS ν 40 13 (nI (p + 1)) = ν1 at F1 X1 a1 b1 ⊢
    have x2 := m_expects X1 (show p + 1 < 1000 by omega) a1 b1 (c := 58) (by decide)
    by_cases k2 : isC μ (p + 1) 58
    · simp only [if_pos k2]
      rw [x2.1 k2, Option.bind_some]
      have F2' : fr F2 ν (ppS ν1 40 13 (nI (p + 1 + 1))) := fr_tr F1 (fr_S ⟨rfl, Or.inl rfl⟩)
      have X2 := TX_fr h (F2_F5 F2')
      have a2 : (ppS ν1 40 13 (nI (p + 1 + 1))).1 40 13 = nI (p + 2) := qs_same _ _ _ _
      have b2 : (ppS ν1 40 13 (nI (p + 1 + 1))).1 40 14 = -1 := by rw [qs_ne (by omega)]; exact b1
      generalize ppS ν1 40 13 (nI (p + 1 + 1)) = ν2 at F2' X2 a2 b2 ⊢
      have n3 := m_num1 X2 (lo := 0) (hi := 5) (by omega) (by omega) (show p + 2 < 800 by omega) a2 b2
      by_cases k3 : ∃ t, dgt μ (p + 2) = some t ∧ t ≤ 5
      · obtain ⟨t, d3, k3⟩ := k3
        simp only [d3, if_pos k3]
        rw [show f_X9_number ν2 1 0 5 = _ from n3.1 t d3 ⟨by omega, k3⟩, Option.bind_some]
        have F3 : fr F2 ν (ppS ν2 40 13 (nI (p + 2 + 1))) := fr_tr F2' (fr_S ⟨rfl, Or.inl rfl⟩)
        have X3 := TX_fr h (F2_F5 F3)
        have a3 : (ppS ν2 40 13 (nI (p + 2 + 1))).1 40 13 = nI (p + 3) := qs_same _ _ _ _
        have b3 : (ppS ν2 40 13 (nI (p + 2 + 1))).1 40 14 = -1 := by rw [qs_ne (by omega)]; exact b2
        generalize ppS ν2 40 13 (nI (p + 2 + 1)) = ν3 at F3 X3 a3 b3 ⊢
        have x4 := m_expects X3 (show p + 3 < 1000 by omega) a3 b3 (c := 61) (by decide)
        by_cases k4 : isC μ (p + 3) 61
        · simp only [if_pos k4]
          rw [x4.1 k4, Option.bind_some]
          have F4 : fr F2 ν (ppS ν3 40 13 (nI (p + 3 + 1))) := fr_tr F3 (fr_S ⟨rfl, Or.inl rfl⟩)
          have X4 := TX_fr h (F2_F5 F4)
          have a4 : (ppS ν3 40 13 (nI (p + 3 + 1))).1 40 13 = nI (p + 4) := qs_same _ _ _ _
          have b4 : (ppS ν3 40 13 (nI (p + 3 + 1))).1 40 14 = -1 := by rw [qs_ne (by omega)]; exact b3
          generalize ppS ν3 40 13 (nI (p + 3 + 1)) = ν4 at F4 X4 a4 b4 ⊢
          cases r0 : rdN μ (p + 4) 16 with
          | inl q =>
            have hq0 := rdN_l r0
            have hq0 : q < 1000 := by omega
            obtain ⟨v, ν5, u1, u2, u3⟩ := (m_num2 X4 (hi := 16) (by omega) (show p + 4 < 800 by omega) a4 b4).2 q r0
            rw [show f_X9_number ν4 2 0 16 = _ from u1, Option.bind_some]
            have hF := fr_tr F4 u3
            rw [m_expF hq0 (u2), Option.bind_some, m_numF hq0 (mE_14n (u2)), Option.bind_some, m_expF hq0 (mE_14n (u2)), Option.bind_some, m_numF hq0 (mE_14n (mE_14n (u2))), Option.bind_some, if_neg (show ¬ ((mE (mE ν5))).1 40 14 = (-1 : Int32) from fun q => m1_ne hq0 (((mE_14n (mE_14n (u2))).symm.trans q)))]
            exact ⟨(mE (mE ν5)), rfl, F2_F5 (fr_tr (fr_tr (hF) (mE_fr _)) (mE_fr _)), fun q hq => (by injection hq with hq; rw [← hq]; exact ⟨mE_14n (mE_14n (u2)), hq0⟩), fun _ _ _ _ _ _ hq => (by cases hq)⟩
          | inr y0 =>
            obtain ⟨c0, e0⟩ := y0
            have B0 := rdN_r r0
            obtain ⟨ν5, u1, u3, a5, b5⟩ := m_num2r X4 (hi := 16) (by omega) (show p + 4 < 800 by omega) a4 b4 r0
            rw [show f_X9_number ν4 2 0 16 = _ from u1, Option.bind_some]
            have F5' := fr_tr F4 u3
            have X5 := TX_fr h (F2_F5 F5')
            have x6 := m_expects X5 (show e0 < 1000 by omega) a5 b5 (c := 44) (by decide)
            by_cases k6 : isC μ e0 44
            · simp only [if_pos k6]
              rw [x6.1 k6, Option.bind_some]
              have F6 : fr F2 ν (ppS ν5 40 13 (nI (e0 + 1))) := fr_tr F5' (fr_S ⟨rfl, Or.inl rfl⟩)
              have X6 := TX_fr h (F2_F5 F6)
              have a6 : (ppS ν5 40 13 (nI (e0 + 1))).1 40 13 = nI (e0 + 1) := qs_same _ _ _ _
              have b6 : (ppS ν5 40 13 (nI (e0 + 1))).1 40 14 = -1 := by rw [qs_ne (by omega)]; exact b5
              generalize ppS ν5 40 13 (nI (e0 + 1)) = ν6 at F6 X6 a6 b6 ⊢
              cases r1 : rdN μ (e0 + 1) c0 with
              | inl q =>
                have hq0 := rdN_l r1
                have hq0 : q < 1000 := by omega
                obtain ⟨v, ν7, u1, u2, u3⟩ := (m_num2 X6 (hi := c0) (by omega) (show e0 + 1 < 800 by omega) a6 b6).2 q r1
                rw [u1, Option.bind_some]
                have hF := fr_tr F6 u3
                rw [m_expF hq0 (u2), Option.bind_some, m_numF hq0 (mE_14n (u2)), Option.bind_some, if_neg (show ¬ ((mE ν7)).1 40 14 = (-1 : Int32) from fun q => m1_ne hq0 (((mE_14n (u2)).symm.trans q)))]
                exact ⟨(mE ν7), rfl, F2_F5 (fr_tr (hF) (mE_fr _)), fun q hq => (by injection hq with hq; rw [← hq]; exact ⟨mE_14n (u2), hq0⟩), fun _ _ _ _ _ _ hq => (by cases hq)⟩
              | inr y1 =>
                obtain ⟨c1, e1⟩ := y1
                have B1 := rdN_r r1
                obtain ⟨ν7, u1, u3, a7, b7⟩ := m_num2r X6 (hi := c0) (by omega) (show e0 + 1 < 800 by omega) a6 b6 r1
                rw [u1, Option.bind_some]
                have F7 := fr_tr F6 u3
                have X7 := TX_fr h (F2_F5 F7)
                have x8 := m_expects X7 (show e1 < 1000 by omega) a7 b7 (c := 44) (by decide)
                by_cases k8 : isC μ e1 44
                · simp only [if_pos k8]
                  rw [x8.1 k8, Option.bind_some]
                  have F8 : fr F2 ν (ppS ν7 40 13 (nI (e1 + 1))) := fr_tr F7 (fr_S ⟨rfl, Or.inl rfl⟩)
                  have X8 := TX_fr h (F2_F5 F8)
                  have a8 : (ppS ν7 40 13 (nI (e1 + 1))).1 40 13 = nI (e1 + 1) := qs_same _ _ _ _
                  have b8 : (ppS ν7 40 13 (nI (e1 + 1))).1 40 14 = -1 := by rw [qs_ne (by omega)]; exact b7
                  generalize ppS ν7 40 13 (nI (e1 + 1)) = ν8 at F8 X8 a8 b8 ⊢
                  cases r2 : rdN μ (e1 + 1) c1 with
                  | inl q =>
                    have hq0 := rdN_l r2
                    have hq0 : q < 1000 := by omega
                    obtain ⟨v, ν9, u1, u2, u3⟩ := (m_num2 X8 (hi := c1) (by omega) (show e1 + 1 < 800 by omega) a8 b8).2 q r2
                    rw [u1, Option.bind_some]
                    have hF := fr_tr F8 u3
                    rw [if_neg (show ¬ (ν9).1 40 14 = (-1 : Int32) from fun q => m1_ne hq0 (((u2).symm.trans q)))]
                    exact ⟨ν9, rfl, F2_F5 (hF), fun q hq => (by injection hq with hq; rw [← hq]; exact ⟨u2, hq0⟩), fun _ _ _ _ _ _ hq => (by cases hq)⟩
                  | inr y2 =>
                    obtain ⟨c2, e2⟩ := y2
                    have B2 := rdN_r r2
                    obtain ⟨ν9, u1, u3, a9, b9⟩ := m_num2r X8 (hi := c1) (by omega) (show e1 + 1 < 800 by omega) a8 b8 r2
                    rw [u1, Option.bind_some]
                    have F9 := fr_tr F8 u3
                    have h15' : ν9.1 40 15 = nI k := by rw [(F9 40 15 (by unfold F2; omega)).1]; exact h15
                    have q50 : ∀ (m : pp_M) (a : Nat) (b : Int32), (ppS m 50 a b).1 40 15 = m.1 40 15 := fun m a b => qs_tok (by omega)
                    have q51 : ∀ (m : pp_M) (a : Nat) (b : Int32), (ppS m 51 a b).1 40 15 = m.1 40 15 := fun m a b => qs_tok (by omega)
                    have q52 : ∀ (m : pp_M) (a : Nat) (b : Int32), (ppS m 52 a b).1 40 15 = m.1 40 15 := fun m a b => qs_tok (by omega)
                    have e3 : (3 : Int32) * nI k = nI (3 * k) := by rw [c3I, pk_mul]
                    have e4 : nI (3 * k) + (2 : Int32) = nI (3 * k + 2) := nI_add _ 2
                    have i1 : pp_ix (nI k) 10 := q_ix (by omega) (by omega)
                    have i2 : pp_ix (nI (3 * k)) 30 := q_ix (by omega) (by omega)
                    have i3 : pp_ix (nI (3 * k + 1)) 30 := q_ix (by omega) (by omega)
                    have i4 : pp_ix (nI (3 * k + 2)) 30 := q_ix (by omega) (by omega)
                    rw [if_pos b9]
                    simp only [q50, q51, q52, h15', if_pos i1, e3, if_pos i2, nI_1, if_pos i3, e4, if_pos i4, q_cl (k := k) (show k < 2 ^ 31 by omega), q_cl (k := 3 * k) (show 3 * k < 2 ^ 31 by omega), q_cl (k := 3 * k + 1) (show 3 * k + 1 < 2 ^ 31 by omega), q_cl (k := 3 * k + 2) (show 3 * k + 2 < 2 ^ 31 by omega)]
                    refine ⟨_, rfl, ?_, fun q hq => (by cases hq), fun f' t' d0 d1' d2 e hq => ?_⟩
                    · exact fr_tr (F2_F5 F9) (fr_tr (fr_tr (fr_tr (fr_tr (fr_tr (fr_S (by unfold F5; omega)) (fr_S (by unfold F5; omega))) (fr_S (by unfold F5; omega))) (fr_S (by unfold F5; omega))) (fr_S (by unfold F5; omega))) (fr_S (by unfold F5; omega)))
                    · injection hq with hq
                      injection hq with u0 hq
                      injection hq with u1 hq
                      injection hq with u2 hq
                      injection hq with u3 hq
                      injection hq with u4 u5
                      subst u0 u1 u2 u3 u4 u5
                      refine ⟨?_, ?_, qs_same _ _ _ _, ?_, ?_, ?_, ?_, ?_, ?_⟩
                      · rw [qs_ne (by omega), qs_tok (by omega), qs_tok (by omega), qs_tok (by omega), qs_tok (by omega), qs_tok (by omega)]; exact b9
                      · rw [qs_ne (by omega), qs_tok (by omega), qs_tok (by omega), qs_tok (by omega), qs_tok (by omega), qs_tok (by omega)]; exact a9
                      · rw [qs_tok (by omega), qs_tok (by omega), qs_tok (by omega), qs_tok (by omega), qs_tok (by omega), qs_same]
                      · rw [qs_tok (by omega), qs_tok (by omega), qs_tok (by omega), qs_tok (by omega), qs_same]
                      · rw [qs_tok (by omega), qs_ne (by omega), qs_ne (by omega), qs_same]
                      · rw [qs_tok (by omega), qs_ne (by omega), qs_same]
                      · rw [qs_tok (by omega), qs_same]
                      · exact fr_tr (fr_mono F9 (fun x i q => by unfold F2 at q; omega)) (fr_tr (fr_tr (fr_tr (fr_tr (fr_tr (fr_S (by omega)) (fr_S (by omega))) (fr_S (by omega))) (fr_S (by omega))) (fr_S (by omega))) (fr_S (by omega)))
                · simp only [if_neg k8]
                  have hq0 : e1 < 1000 := by omega
                  have u2 : (ppS (ppS ν7 40 14 (nI e1)) 40 13 (nI (e1 + 1))).1 40 14 = nI e1 := by rw [qs_ne (by omega), qs_same]
                  have hF : fr F2 ν (ppS (ppS ν7 40 14 (nI e1)) 40 13 (nI (e1 + 1))) := fr_tr F7 (fr_tr (fr_S ⟨rfl, Or.inr rfl⟩) (fr_S ⟨rfl, Or.inl rfl⟩))
                  rw [x8.2 k8, Option.bind_some]
                  generalize ppS (ppS ν7 40 14 (nI e1)) 40 13 (nI (e1 + 1)) = ν8 at u2 hF ⊢
                  rw [m_numF hq0 (u2), Option.bind_some, if_neg (show ¬ (ν8).1 40 14 = (-1 : Int32) from fun q => m1_ne hq0 (((u2).symm.trans q)))]
                  exact ⟨ν8, rfl, F2_F5 (hF), fun q hq => (by injection hq with hq; rw [← hq]; exact ⟨u2, hq0⟩), fun _ _ _ _ _ _ hq => (by cases hq)⟩
            · simp only [if_neg k6]
              have hq0 : e0 < 1000 := by omega
              have u2 : (ppS (ppS ν5 40 14 (nI e0)) 40 13 (nI (e0 + 1))).1 40 14 = nI e0 := by rw [qs_ne (by omega), qs_same]
              have hF : fr F2 ν (ppS (ppS ν5 40 14 (nI e0)) 40 13 (nI (e0 + 1))) := fr_tr F5' (fr_tr (fr_S ⟨rfl, Or.inr rfl⟩) (fr_S ⟨rfl, Or.inl rfl⟩))
              rw [x6.2 k6, Option.bind_some]
              generalize ppS (ppS ν5 40 14 (nI e0)) 40 13 (nI (e0 + 1)) = ν6 at u2 hF ⊢
              rw [m_numF hq0 (u2), Option.bind_some, m_expF hq0 (u2), Option.bind_some, m_numF hq0 (mE_14n (u2)), Option.bind_some, if_neg (show ¬ ((mE ν6)).1 40 14 = (-1 : Int32) from fun q => m1_ne hq0 (((mE_14n (u2)).symm.trans q)))]
              exact ⟨(mE ν6), rfl, F2_F5 (fr_tr (hF) (mE_fr _)), fun q hq => (by injection hq with hq; rw [← hq]; exact ⟨mE_14n (u2), hq0⟩), fun _ _ _ _ _ _ hq => (by cases hq)⟩
        · simp only [if_neg k4]
          have hq0 : p + 3 < 1000 := by omega
          have u2 : (ppS (ppS ν3 40 14 (nI (p + 3))) 40 13 (nI (p + 3 + 1))).1 40 14 = nI (p + 3) := by rw [qs_ne (by omega), qs_same]
          have hF : fr F2 ν (ppS (ppS ν3 40 14 (nI (p + 3))) 40 13 (nI (p + 3 + 1))) := fr_tr F3 (fr_tr (fr_S ⟨rfl, Or.inr rfl⟩) (fr_S ⟨rfl, Or.inl rfl⟩))
          rw [x4.2 k4, Option.bind_some]
          generalize ppS (ppS ν3 40 14 (nI (p + 3))) 40 13 (nI (p + 3 + 1)) = ν4 at u2 hF ⊢
          rw [m_numF hq0 (u2), Option.bind_some, m_expF hq0 (u2), Option.bind_some, m_numF hq0 (mE_14n (u2)), Option.bind_some, m_expF hq0 (mE_14n (u2)), Option.bind_some, m_numF hq0 (mE_14n (mE_14n (u2))), Option.bind_some, if_neg (show ¬ ((mE (mE ν4))).1 40 14 = (-1 : Int32) from fun q => m1_ne hq0 (((mE_14n (mE_14n (u2))).symm.trans q)))]
          exact ⟨(mE (mE ν4)), rfl, F2_F5 (fr_tr (fr_tr (hF) (mE_fr _)) (mE_fr _)), fun q hq => (by injection hq with hq; rw [← hq]; exact ⟨mE_14n (mE_14n (u2)), hq0⟩), fun _ _ _ _ _ _ hq => (by cases hq)⟩
      · have k3' : ∀ a, dgt μ (p + 2) = some a → ¬ (0 ≤ a ∧ a ≤ 5) := fun a ha hr => k3 ⟨a, ha, hr.2⟩
        obtain ⟨v, ν3, u1, u2, u3⟩ := n3.2 k3'
        have hq0 : p + 2 < 1000 := by omega
        have hF := fr_tr F2' u3
        rw [show f_X9_number ν2 1 0 5 = _ from u1, Option.bind_some]
        cases d3 : dgt μ (p + 2) with
        | none =>
          simp only []
          rw [m_expF hq0 (u2), Option.bind_some, m_numF hq0 (mE_14n (u2)), Option.bind_some, m_expF hq0 (mE_14n (u2)), Option.bind_some, m_numF hq0 (mE_14n (mE_14n (u2))), Option.bind_some, m_expF hq0 (mE_14n (mE_14n (u2))), Option.bind_some, m_numF hq0 (mE_14n (mE_14n (mE_14n (u2)))), Option.bind_some, if_neg (show ¬ ((mE (mE (mE ν3)))).1 40 14 = (-1 : Int32) from fun q => m1_ne hq0 (((mE_14n (mE_14n (mE_14n (u2)))).symm.trans q)))]
          exact ⟨(mE (mE (mE ν3))), rfl, F2_F5 (fr_tr (fr_tr (fr_tr (hF) (mE_fr _)) (mE_fr _)) (mE_fr _)), fun q hq => (by injection hq with hq; rw [← hq]; exact ⟨mE_14n (mE_14n (mE_14n (u2))), hq0⟩), fun _ _ _ _ _ _ hq => (by cases hq)⟩
        | some t =>
          simp only [if_neg (fun q => k3' t d3 ⟨Nat.zero_le _, q⟩ : ¬ t ≤ 5)]
          rw [m_expF hq0 (u2), Option.bind_some, m_numF hq0 (mE_14n (u2)), Option.bind_some, m_expF hq0 (mE_14n (u2)), Option.bind_some, m_numF hq0 (mE_14n (mE_14n (u2))), Option.bind_some, m_expF hq0 (mE_14n (mE_14n (u2))), Option.bind_some, m_numF hq0 (mE_14n (mE_14n (mE_14n (u2)))), Option.bind_some, if_neg (show ¬ ((mE (mE (mE ν3)))).1 40 14 = (-1 : Int32) from fun q => m1_ne hq0 (((mE_14n (mE_14n (mE_14n (u2)))).symm.trans q)))]
          exact ⟨(mE (mE (mE ν3))), rfl, F2_F5 (fr_tr (fr_tr (fr_tr (hF) (mE_fr _)) (mE_fr _)) (mE_fr _)), fun q hq => (by injection hq with hq; rw [← hq]; exact ⟨mE_14n (mE_14n (mE_14n (u2))), hq0⟩), fun _ _ _ _ _ _ hq => (by cases hq)⟩
    · simp only [if_neg k2]
      have hq0 : p + 1 < 1000 := by omega
      have u2 : (ppS (ppS ν1 40 14 (nI (p + 1))) 40 13 (nI (p + 1 + 1))).1 40 14 = nI (p + 1) := by rw [qs_ne (by omega), qs_same]
      have hF : fr F2 ν (ppS (ppS ν1 40 14 (nI (p + 1))) 40 13 (nI (p + 1 + 1))) := fr_tr F1 (fr_tr (fr_S ⟨rfl, Or.inr rfl⟩) (fr_S ⟨rfl, Or.inl rfl⟩))
      rw [x2.2 k2, Option.bind_some]
      generalize ppS (ppS ν1 40 14 (nI (p + 1))) 40 13 (nI (p + 1 + 1)) = ν2 at u2 hF ⊢
      rw [m_numF hq0 (u2), Option.bind_some, m_expF hq0 (u2), Option.bind_some, m_numF hq0 (mE_14n (u2)), Option.bind_some, m_expF hq0 (mE_14n (u2)), Option.bind_some, m_numF hq0 (mE_14n (mE_14n (u2))), Option.bind_some, m_expF hq0 (mE_14n (mE_14n (u2))), Option.bind_some, m_numF hq0 (mE_14n (mE_14n (mE_14n (u2)))), Option.bind_some, if_neg (show ¬ ((mE (mE (mE ν2)))).1 40 14 = (-1 : Int32) from fun q => m1_ne hq0 (((mE_14n (mE_14n (mE_14n (u2)))).symm.trans q)))]
      exact ⟨(mE (mE (mE ν2))), rfl, F2_F5 (fr_tr (fr_tr (fr_tr (hF) (mE_fr _)) (mE_fr _)) (mE_fr _)), fun q hq => (by injection hq with hq; rw [← hq]; exact ⟨mE_14n (mE_14n (mE_14n (u2))), hq0⟩), fun _ _ _ _ _ _ hq => (by cases hq)⟩
  · have k1' : ∀ a, dgt μ p = some a → ¬ (1 ≤ a ∧ a ≤ 7) := fun a ha hr => k1 ⟨a, ha, hr⟩
    obtain ⟨v, ν1, u1, u2, hF⟩ := n1.2 k1'
    have hq0 : p < 1000 := by omega
    rw [show f_X9_number ν 1 1 7 = _ from u1, Option.bind_some]
    cases d1 : dgt μ p with
    | none =>
      simp only []
      rw [m_expF hq0 (u2), Option.bind_some, m_numF hq0 (mE_14n (u2)), Option.bind_some, m_expF hq0 (mE_14n (u2)), Option.bind_some, m_numF hq0 (mE_14n (mE_14n (u2))), Option.bind_some, m_expF hq0 (mE_14n (mE_14n (u2))), Option.bind_some, m_numF hq0 (mE_14n (mE_14n (mE_14n (u2)))), Option.bind_some, m_expF hq0 (mE_14n (mE_14n (mE_14n (u2)))), Option.bind_some, m_numF hq0 (mE_14n (mE_14n (mE_14n (mE_14n (u2))))), Option.bind_some, if_neg (show ¬ ((mE (mE (mE (mE ν1))))).1 40 14 = (-1 : Int32) from fun q => m1_ne hq0 (((mE_14n (mE_14n (mE_14n (mE_14n (u2))))).symm.trans q)))]
      exact ⟨(mE (mE (mE (mE ν1)))), rfl, F2_F5 (fr_tr (fr_tr (fr_tr (fr_tr (hF) (mE_fr _)) (mE_fr _)) (mE_fr _)) (mE_fr _)), fun q hq => (by injection hq with hq; rw [← hq]; exact ⟨mE_14n (mE_14n (mE_14n (mE_14n (u2)))), hq0⟩), fun _ _ _ _ _ _ hq => (by cases hq)⟩
    | some f =>
      simp only [if_neg (k1' f d1)]
      rw [m_expF hq0 (u2), Option.bind_some, m_numF hq0 (mE_14n (u2)), Option.bind_some, m_expF hq0 (mE_14n (u2)), Option.bind_some, m_numF hq0 (mE_14n (mE_14n (u2))), Option.bind_some, m_expF hq0 (mE_14n (mE_14n (u2))), Option.bind_some, m_numF hq0 (mE_14n (mE_14n (mE_14n (u2)))), Option.bind_some, m_expF hq0 (mE_14n (mE_14n (mE_14n (u2)))), Option.bind_some, m_numF hq0 (mE_14n (mE_14n (mE_14n (mE_14n (u2))))), Option.bind_some, if_neg (show ¬ ((mE (mE (mE (mE ν1))))).1 40 14 = (-1 : Int32) from fun q => m1_ne hq0 (((mE_14n (mE_14n (mE_14n (mE_14n (u2))))).symm.trans q)))]
      exact ⟨(mE (mE (mE (mE ν1)))), rfl, F2_F5 (fr_tr (fr_tr (fr_tr (fr_tr (hF) (mE_fr _)) (mE_fr _)) (mE_fr _)) (mE_fr _)), fun q hq => (by injection hq with hq; rw [← hq]; exact ⟨mE_14n (mE_14n (mE_14n (mE_14n (u2)))), hq0⟩), fun _ _ _ _ _ _ hq => (by cases hq)⟩
end MPARSE
