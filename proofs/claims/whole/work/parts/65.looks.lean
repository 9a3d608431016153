/-! the reference's rows by figures, and its best pack for a row -/
section LOOKS
variable {Ca : pp_M → pp_M → Prop} {σ μ ν : pp_M} {G : Nat → Nat → Int} {W : Nat → Nat}
def P61 (t i : Nat) : Prop := t = 61 ∨ (t = 40 ∧ i = 32)
theorem P61_sM {μ μ' : pp_M} (h : fr P61 μ μ') : fr sM μ μ' := fr_mono h (fun t i q => by unfold P61 at q; unfold sM; omega)
theorem fLb_le (o : Nat) : ∀ b, (fLb o b).length ≤ b
  | 0 => Nat.le_refl _
  | b + 1 => by
    have := fLb_le o b
    unfold fLb
    split
    · rw [List.length_append]; show _ + 1 ≤ _; omega
    · omega
theorem m_ga7 {o : Nat} (ho : o < 128) : ∀ m b n ν, b + m = 7 → m < n → ν.1 40 8 = nI o → ν.1 40 32 = nI (fLb o b).length → (∀ i, i < (fLb o b).length → ν.1 61 i = nI ((fLb o b).getD i 0)) → ∃ ν', f_X9_gathers_7 n ν (nI (b + 1)) = some (if 5 < (fL o).length then 0 else 1, ν') ∧ fr P61 ν ν' ∧ ν'.1 40 32 = nI (fL o).length ∧ ∀ i, i < (fL o).length → ν'.1 61 i = nI ((fL o).getD i 0) := by
  intro m
  induction m with
  | zero =>
    intro b n ν hb hn h8 h32 h61
    obtain ⟨n, rfl⟩ : ∃ n', n = n' + 1 := ⟨n - 1, by omega⟩
    have : b = 7 := by omega
    subst this
    have hl := fL_len o ho
    refine ⟨ν, ?_, fr_rf, h32, h61⟩
    show f_X9_gathers_7_B (f_X9_gathers_7 n) _ _ = _
    unfold f_X9_gathers_7_B
    rw [if_pos (show (7 : Int32) < nI 8 from nI_lt (a := 7) (by omega) (by omega)), h32, show fLb o 7 = fL o from rfl]
    by_cases c : 5 < (fL o).length
    · rw [if_pos c, if_pos (show (5 : Int32) < nI (fL o).length from nI_lt (a := 5) c (by omega))]
    · rw [if_neg c, if_neg (show ¬ (5 : Int32) < nI (fL o).length from q_nl (a := 5) (by omega) (by omega))]
  | succ m ih =>
    intro b n ν hb hn h8 h32 h61
    obtain ⟨n, rfl⟩ : ∃ n', n = n' + 1 := ⟨n - 1, by omega⟩
    have hle := fLb_le o b
    have e0 : f_X9_gathers_7 (n + 1) ν (nI (b + 1)) = f_X9_gathers_7_B (f_X9_gathers_7 n) ν (nI (b + 1)) := rfl
    unfold f_X9_gathers_7_B f_X9_gathers_47 at e0
    rw [if_neg (show ¬ (7 : Int32) < nI (b + 1) from q_nl (a := 7) (by omega) (by omega)), nI_s1, h8, h32, nI_1 (b + 1)] at e0
    by_cases c : o.testBit b = true
    · have i1 : pp_ix (nI (fLb o b).length) 7 := q_ix (by omega) (by omega)
      have eL : fLb o (b + 1) = fLb o b ++ [b + 1] := by show (if o.testBit b then fLb o b ++ [b + 1] else fLb o b) = _; rw [if_pos c]
      rw [if_pos ((bit_1 (by omega) (by omega)).mpr c), if_pos i1, q_cl (k := (fLb o b).length) (by omega), qs_tok (t := 61) (a := 40) (by omega), h32, nI_1] at e0
      have fS : fr P61 ν (ppS (ppS ν 61 (fLb o b).length (nI (b + 1))) 40 32 (nI ((fLb o b).length + 1))) := fr_tr (fr_S (Or.inl rfl)) (fr_S (Or.inr ⟨rfl, rfl⟩))
      obtain ⟨ν', g1, g2, g3, g4⟩ := ih (b + 1) n _ (by omega) (by omega) (by rw [(fS 40 8 (by unfold P61; omega)).1]; exact h8) (by rw [qs_same, eL, List.length_append]; rfl) (fun i hi => by
        rw [eL, List.length_append] at hi
        have hi' : i < (fLb o b).length + 1 := hi
        rw [eL, qs_tok (by omega)]
        by_cases e : i = (fLb o b).length
        · rw [e, qs_same, getD_app2]
        · rw [qs_ne (fun q => e q.2), getD_app1 _ _ _ (by omega)]; exact h61 i (by omega))
      exact ⟨ν', e0.trans g1, fr_tr fS g2, g3, g4⟩
    · have eL : fLb o (b + 1) = fLb o b := by show (if o.testBit b then fLb o b ++ [b + 1] else fLb o b) = _; rw [if_neg c]
      rw [if_neg (fun q => c ((bit_1 (by omega) (by omega)).mp q))] at e0
      obtain ⟨ν', g1, g2, g3, g4⟩ := ih (b + 1) n ν (by omega) (by omega) h8 (by rw [eL]; exact h32) (by rw [eL]; exact h61)
      exact ⟨ν', e0.trans g1, g2, g3, g4⟩
/-- the open farms lie ready -/
def GA (ν : pp_M) (o : Nat) : Prop := ν.1 40 32 = nI (fL o).length ∧ ∀ i, i < (fL o).length → ν.1 61 i = nI ((fL o).getD i 0)
theorem m_gathers (hI : Inv μ) (hν : fr sM μ ν) : ∃ ν', f_X9_gathers ν = some (if 5 < (fL (Op μ)).length then 0 else 1, ν') ∧ fr sM μ ν' ∧ GA ν' (Op μ) := by
  have f0 : fr P61 ν (ppS ν 40 32 0) := fr_S (Or.inr ⟨rfl, rfl⟩)
  obtain ⟨ν', g1, g2, g3, g4⟩ := m_ga7 (Op_ok hI).2 7 0 100000 (ppS ν 40 32 0) (by omega) (by omega) (by rw [qs_ne (by omega), (hν 40 8 (by unfold sM; omega)).1]; exact (Op_ok hI).1) (by rw [qs_same]; rfl) (fun i hi => by cases hi)
  exact ⟨ν', g1, fr_tr hν (P61_sM (fr_tr f0 g2)), g3, g4⟩
/-- a row told by figures -/
def rowD (o : Nat) (ds : List Nat) : List Nat := ds.map (fun d => (fL o).getD d 0)
def vD (M : Nat) (ds : List Nat) : Prop := ds.Nodup ∧ ∀ d ∈ ds, d < M
def bsD : List Nat → Nat
  | [] => 0
  | d :: ds => 2 ^ d ||| bsD ds
theorem bsD_bit : ∀ (ds : List Nat) (d : Nat), (bsD ds).testBit d = true ↔ d ∈ ds
  | [], d => by
    show (0 : Nat).testBit d = true ↔ _
    rw [Nat.zero_testBit]
    exact ⟨fun h => (by cases h), fun h => (by cases h)⟩
  | e :: ds, d => by
    have ih := bsD_bit ds d
    show (2 ^ e ||| bsD ds).testBit d = true ↔ _
    rw [Nat.testBit_or, Nat.testBit_two_pow, Bool.or_eq_true, ih, decide_eq_true_eq, List.mem_cons]
    constructor
    · rintro (h1 | h1)
      · exact Or.inl h1.symm
      · exact Or.inr h1
    · rintro (h1 | h1)
      · exact Or.inl h1.symm
      · exact Or.inr h1
theorem bsD_lt {M : Nat} : ∀ (ds : List Nat), (∀ d ∈ ds, d < M) → bsD ds < 2 ^ M
  | [], _ => Nat.pow_pos (by omega)
  | d :: ds, h => Nat.or_lt_two_pow (Nat.pow_lt_pow_right (by omega) (h d (List.mem_cons_self ..))) (bsD_lt ds (fun e he => h e (List.mem_cons_of_mem _ he)))
def P55b (t i : Nat) : Prop := t = 55
theorem m_la15 {o : Nat} (ho : (fL o).length ≤ 5) : ∀ c n left qs ν, c ≤ 5 → c < n → left < 5 ^ c → GA ν o → vD (fL o).length qs → (∃ r ν', f_X9_looksAt_15 n ν (nI left) (nI (bsD qs)) (nI c + (-1 : Int32)) = some (r, ν') ∧ fr P55b ν ν' ∧ (vD (fL o).length (dgs c left ++ qs) → r = nI (bsD (dgs c left ++ qs)) ∧ (∀ i, i < c → ν'.1 55 i = nI ((fL o).getD ((dgs c left).getD i 0) 0)) ∧ fr (fun t i => t = 55 ∧ i < c) ν ν') ∧ (¬ vD (fL o).length (dgs c left ++ qs) → r = -1)) := by
  intro c
  induction c with
  | zero =>
    intro n left qs ν hc hn hl hG hq
    obtain ⟨n, rfl⟩ : ∃ n', n = n' + 1 := ⟨n - 1, by omega⟩
    refine ⟨nI (bsD qs), ν, ?_, fr_rf, fun _ => ⟨rfl, fun i hi => by omega, fr_rf⟩, fun h => absurd hq h⟩
    show f_X9_looksAt_15_B (f_X9_looksAt_15 n) _ _ _ _ = _
    unfold f_X9_looksAt_15_B
    rw [if_pos (show nI 0 + (-1 : Int32) < 0 by decide)]
  | succ c ih =>
    intro n left qs ν hc hn hl hG hq
    obtain ⟨n, rfl⟩ : ∃ n', n = n' + 1 := ⟨n - 1, by omega⟩
    rw [Nat.pow_succ] at hl
    have h55 : (5 : Nat) ^ c ≤ 5 ^ 4 := Nat.pow_le_pow_right (by omega) (by omega)
    have hbl := bsD_lt qs hq.2
    have hb5 : (2 : Nat) ^ (fL o).length ≤ 2 ^ 5 := Nat.pow_le_pow_right (by omega) ho
    have hm : left % 5 < 5 := Nat.mod_lt _ (by omega)
    have d1 : nI left / (5 : Int32) = nI (left / 5) := pk_div (d := 5) (by omega) (by omega) (by omega)
    have d2 : nI left - nI (left / 5) * (5 : Int32) = nI (left % 5) := by
      have := pk_rem (a := left) (d := 5) (by omega) (by omega) (by omega)
      rw [pk_div (by omega) (by omega) (by omega)] at this
      exact this
    have eD : dgs (c + 1) left ++ qs = dgs c (left / 5) ++ ((left % 5) :: qs) := by
      show (dgs c (left / 5) ++ [left % 5]) ++ qs = _
      rw [List.append_assoc]; rfl
    have e0 : f_X9_looksAt_15 (n + 1) ν (nI left) (nI (bsD qs)) (nI (c + 1) + (-1 : Int32)) = f_X9_looksAt_15_B (f_X9_looksAt_15 n) ν (nI left) (nI (bsD qs)) (nI (c + 1) + (-1 : Int32)) := rfl
    unfold f_X9_looksAt_15_B at e0
    rw [nI_m1, if_neg (nI_nneg (by omega)), d1, d2, hG.1] at e0
    rw [nI_m1, eD]
    by_cases c1 : left % 5 < (fL o).length
    · rw [if_pos (nI_lt c1 (by omega))] at e0
      by_cases c2 : left % 5 ∈ qs
      · rw [if_pos ((bit_1 (by omega) (by omega)).mpr ((bsD_bit qs (left % 5)).mpr c2))] at e0
        refine ⟨-1, ν, e0, fr_rf, fun h => ?_, fun _ => rfl⟩
        exfalso
        have := (List.nodup_append.mp h.1).2.1
        exact (List.nodup_cons.mp this).1 c2
      · have i1 : pp_ix (nI (left % 5)) 7 := q_ix (by omega) (by omega)
        have i2 : pp_ix (nI c) 7 := q_ix (by omega) (by omega)
        rw [if_neg (fun q => c2 ((bsD_bit qs (left % 5)).mp ((bit_1 (by omega) (by omega)).mp q))), if_pos i1, if_pos i2, q_cl (k := left % 5) (by omega), q_cl (k := c) (by omega), hG.2 _ c1, bit_sh (by omega), nI_or, Nat.or_comm] at e0
        have fS : fr P55b ν (ppS ν 55 c (nI ((fL o).getD (left % 5) 0))) := fr_S rfl
        have hq' : vD (fL o).length ((left % 5) :: qs) := ⟨List.nodup_cons.mpr ⟨c2, hq.1⟩, fun d hd => by
          rcases List.mem_cons.mp hd with rfl | hd
          · exact c1
          · exact hq.2 d hd⟩
        obtain ⟨r, ν', g1, g2, g3, g4⟩ := ih n (left / 5) ((left % 5) :: qs) (ppS ν 55 c (nI ((fL o).getD (left % 5) 0))) (by omega) (by omega) (by omega) ⟨by rw [qs_tok (by omega)]; exact hG.1, fun i hi => by rw [qs_tok (by omega)]; exact hG.2 i hi⟩ hq'
        refine ⟨r, ν', e0.trans g1, fr_tr fS g2, fun h => ?_, g4⟩
        obtain ⟨k1, k2, k3⟩ := g3 h
        have hl := dgs_len c (left / 5)
        refine ⟨k1, fun i hi => ?_, fr_tr (fr_S ⟨rfl, by omega⟩) (fr_mono k3 (fun t i q => ⟨q.1, by omega⟩))⟩
        show ν'.1 55 i = nI ((fL o).getD ((dgs c (left / 5) ++ [left % 5]).getD i 0) 0)
        by_cases e : i = c
        · have a2 := getD_app2 (dgs c (left / 5)) (left % 5)
          rw [hl] at a2
          rw [e, a2, (k3 55 c (by omega)).1, qs_same]
        · rw [getD_app1 _ _ _ (by omega)]
          exact k2 i (by omega)
    · rw [if_neg (q_nl (by omega) (by omega))] at e0
      refine ⟨-1, ν, e0, fr_rf, fun h => ?_, fun _ => rfl⟩
      exfalso
      have := h.2 (left % 5) (List.mem_append_right _ (List.mem_cons_self ..))
      exact c1 this
def PLA (t i : Nat) : Prop := t = 55 ∨ (t = 40 ∧ i = 22)
theorem m_looksAt {o : Nat} (ho : (fL o).length ≤ 5) {n c : Nat} (hn : n ≤ 5) (hc : c < 5 ^ n) (hG : GA ν o) : ∃ r ν', f_X9_looksAt ν (nI n) (nI c) = some (r, ν') ∧ fr PLA ν ν' ∧ (vD (fL o).length (dgs n c) → r = nI (bsD (dgs n c)) ∧ ν'.1 40 22 = nI n ∧ isRow (ν'.1 55) 0 (rowD o (dgs n c))) ∧ (¬ vD (fL o).length (dgs n c) → r = -1) := by
  obtain ⟨r, ν', g1, g2, g3, g4⟩ := m_la15 ho n 100000 c [] (ppS ν 40 22 (nI n)) hn (by omega) hc ⟨by rw [qs_ne (by omega)]; exact hG.1, fun i hi => by rw [qs_tok (by omega)]; exact hG.2 i hi⟩ ⟨List.nodup_nil, fun d hd => by cases hd⟩
  rw [List.append_nil] at g3 g4
  refine ⟨r, ν', ?_, fr_tr (fr_S (Or.inr ⟨rfl, rfl⟩)) (fr_mono g2 (fun t i q => Or.inl q)), fun h => ?_, g4⟩
  · unfold f_X9_looksAt
    rw [Int32.sub_eq_add_neg]
    exact g1
  · obtain ⟨k1, k2, k3⟩ := g3 h
    refine ⟨k1, by rw [(k3 40 22 (by omega)).1, qs_same], fun i hi => ?_⟩
    have hl : (rowD o (dgs n c)).length = n := by unfold rowD; rw [List.length_map, dgs_len]
    rw [hl] at hi
    rw [Nat.zero_add, k2 i hi]
    refine congrArg nI ?_
    rw [List.getD_eq_getElem?_getD (l := rowD o (dgs n c))]
    unfold rowD
    rw [List.getElem?_map, List.getElem?_eq_getElem (show i < (dgs n c).length by rw [dgs_len]; exact hi)]
    rw [List.getD_eq_getElem?_getD (l := dgs n c), List.getElem?_eq_getElem (show i < (dgs n c).length by rw [dgs_len]; exact hi)]
    rfl
theorem m_fv4 : ∀ m k n N, k + m = N → m < n → N ≤ 5 → f_X9_fives_4 n ν (nI N) (nI (5 ^ k)) (nI k) = some (nI (5 ^ N), ν) := by
  intro m
  induction m with
  | zero =>
    intro k n N hk hn hN
    obtain ⟨n, rfl⟩ : ∃ n', n = n' + 1 := ⟨n - 1, by omega⟩
    have : k = N := by omega
    subst this
    show f_X9_fives_4_B (f_X9_fives_4 n) _ _ _ _ = _
    unfold f_X9_fives_4_B
    rw [if_neg (q_nlt k)]
  | succ m ih =>
    intro k n N hk hn hN
    obtain ⟨n, rfl⟩ : ∃ n', n = n' + 1 := ⟨n - 1, by omega⟩
    show f_X9_fives_4_B (f_X9_fives_4 n) _ _ _ _ = _
    unfold f_X9_fives_4_B
    rw [if_pos (nI_lt (by omega) (by omega)), c5I, pk_mul, ← Nat.pow_succ, nI_1]
    exact ih (k + 1) n N (by omega) (by omega) hN
theorem m_fives {N : Nat} (hN : N ≤ 5) : f_X9_fives ν (nI N) = some (nI (5 ^ N), ν) := m_fv4 N 0 100000 N (by omega) (by omega) hN
end LOOKS
