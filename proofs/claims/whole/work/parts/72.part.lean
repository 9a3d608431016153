/-! class and reference part the farms between two -/
section PART
variable {σ μ ν : pp_M} {F : Nat → Prop} {U : Nat → Int}
theorem c_sub : ∀ a, a < 128 → ∀ m, m < 128 → (nI m &&& (nI a ^^^ (-1 : Int32)) = 0 ↔ m &&& a = m) := by decide +kernel
theorem c_wo : ∀ o, o < 128 → ∀ n, n < 128 → nI o &&& (nI n ^^^ (-1 : Int32)) = nI (o ^^^ (o &&& n)) := by decide +kernel
theorem sub_x {o n m : Nat} : m &&& (o ^^^ (o &&& n)) = m ↔ (m &&& o = m ∧ n &&& m = 0) := by
  rw [sub_bits, sub_bits, dis_bits]
  constructor
  · intro h
    refine ⟨fun i hi => ?_, fun i hn hm => ?_⟩
    · have := h i hi
      rw [Nat.testBit_xor, Nat.testBit_and] at this
      cases e : o.testBit i with
      | true => rfl
      | false => rw [e] at this; cases this
    · have := h i hm
      rw [Nat.testBit_xor, Nat.testBit_and, hn] at this
      cases e : o.testBit i with
      | true => rw [e] at this; cases this
      | false => rw [e] at this; cases this
  · intro h i hi
    rw [Nat.testBit_xor, Nat.testBit_and, h.1 i hi]
    cases e : n.testBit i with
    | false => rfl
    | true => exact absurd hi (h.2 i e)
def P36 (t i : Nat) : Prop := t = 36 ∧ 12 ≤ i ∧ i ≤ 14
/-- what the pairs must be -/
def pOk (F : Nat → Prop) (U : Nat → Int) (k : Nat) : Prop := (∀ S, F S → S < k ∧ -10000000000000 ≤ U S ∧ U S ≤ 10000000000000) ∧ F 0 ∧ 0 ≤ U 0
def FKs (v : Nat → Int64) (S : Nat) : Prop := S < 128 ∧ v S ≠ NOR
def UK (v : Nat → Int64) (S : Nat) : Int := (v S).toInt
def KP (v : Nat → Int64) (σ : pp_M) (n m : Nat) : Prop := (∀ S, S < 128 → σ.2 37 S = v S) ∧ (((∀ S T, ¬ Dp (FKs v) n m S T) ∧ σ.1 36 12 = 0 ∧ σ.1 36 13 = 0 ∧ σ.2 36 14 = 0) ∨ ∃ S T, BQ (UK v) (Dp (FKs v) n m) S T ∧ σ.1 36 12 = nI S ∧ σ.1 36 13 = nI T ∧ σ.2 36 14 = lI (UK v S + UK v T))
theorem k_pW2 {v : Nat → Int64} {o n : Nat} (ho : o < 128) (hP : pOk (FKs v) (UK v) 128) (hS : ∀ S, FKs v S → S &&& o = S) (hn : FKs v n) : ∀ d m N σ, m + d = 128 → d < N → KP v σ n m → ∃ σ', f_X6_partWith_2 N σ (nI n) (nI (o ^^^ (o &&& n))) (nI m) = some σ' ∧ fr P36 σ σ' ∧ KP v σ' (n + 1) 0 := by
  have hn1 := hn.1
  have hx : o ^^^ (o &&& n) < 128 := Nat.xor_lt_two_pow (n := 7) ho (Nat.lt_of_le_of_lt Nat.and_le_left ho)
  have hNOR : NOR = (-9223372036854775808 : Int64) := rfl
  intro d
  induction d with
  | zero =>
    intro m N σ hm hN h
    obtain ⟨N, rfl⟩ : ∃ n', N = n' + 1 := ⟨N - 1, by omega⟩
    have e : m = 128 := by omega
    subst e
    rw [KP, Dp_row (fun T hT => (hP.1 T hT).1)] at h
    refine ⟨σ, ?_, fr_rf, h⟩
    show f_X6_partWith_2_B (f_X6_partWith_2 N) _ _ _ _ = _
    unfold f_X6_partWith_2_B
    rw [if_neg (show ¬ nI 128 < (128 : Int32) by decide)]
  | succ d ih =>
    intro m N σ hm hN h
    obtain ⟨N, rfl⟩ : ∃ n', N = n' + 1 := ⟨N - 1, by omega⟩
    have i1 : pp_ix (nI m) 128 := q_ix (by omega) (by omega)
    have i2 : pp_ix (nI n) 128 := q_ix (by omega) (by omega)
    have e0 : f_X6_partWith_2 (N + 1) σ (nI n) (nI (o ^^^ (o &&& n))) (nI m) = f_X6_partWith_2_B (f_X6_partWith_2 N) σ (nI n) (nI (o ^^^ (o &&& n))) (nI m) := rfl
    unfold f_X6_partWith_2_B f_X6_partWith_78 at e0
    rw [if_pos (show nI m < (128 : Int32) from nI_lt (b := 128) (by omega) (by omega)), nI_1, if_pos i1, if_pos i2, q_cl (k := m) (by omega), q_cl (k := n) (by omega), h.1 m (by omega), h.1 n hn1] at e0
    have go : ∀ σ1, fr P36 σ σ1 → KP v σ1 n (m + 1) → f_X6_partWith_2 (N + 1) σ (nI n) (nI (o ^^^ (o &&& n))) (nI m) = f_X6_partWith_2 N σ1 (nI n) (nI (o ^^^ (o &&& n))) (nI (m + 1)) → ∃ σ', f_X6_partWith_2 (N + 1) σ (nI n) (nI (o ^^^ (o &&& n))) (nI m) = some σ' ∧ fr P36 σ σ' ∧ KP v σ' (n + 1) 0 := fun σ1 j1 j2 j3 => by
      obtain ⟨σ2, g1, g2, g3⟩ := ih (m + 1) N σ1 (by omega) (by omega) j2
      exact ⟨σ2, j3.trans g1, fr_tr j1 g2, g3⟩
    have skip : ¬ (FKs v n ∧ FKs v m ∧ n &&& m = 0) → KP v σ n (m + 1) := fun q => by
      rw [KP, Dp_skip q]
      exact h
    have hc := (c_sub (o ^^^ (o &&& n)) hx m (by omega)).trans sub_x
    by_cases c1 : m &&& o = m ∧ n &&& m = 0
    · rw [if_pos (hc.mpr c1)] at e0
      by_cases c2 : v m = NOR
      · rw [if_pos (show v m = (-9223372036854775808 : Int64) from c2)] at e0
        exact go σ fr_rf (skip (fun q => q.2.1.2 c2)) e0
      · rw [if_neg (show ¬ v m = (-9223372036854775808 : Int64) from c2)] at e0
        have hFm : FKs v m := ⟨by omega, c2⟩
        have b1 := hP.1 n hn
        have b2 := hP.1 m hFm
        have hd := Dp_add (F := FKs v) (n := n) (m := m) ⟨hn, hFm, c1.2⟩
        rw [show v n = lI (UK v n) from (lI_of _).symm, show v m = lI (UK v m) from (lI_of _).symm, lI_add] at e0
        have new : (∀ S T, Dp (FKs v) n m S T → UK v S + UK v T < UK v n + UK v m) → σ.2 36 14 < lI (UK v n + UK v m) → ∃ σ', f_X6_partWith_2 (N + 1) σ (nI n) (nI (o ^^^ (o &&& n))) (nI m) = some σ' ∧ fr P36 σ σ' ∧ KP v σ' (n + 1) 0 := fun hn' hl => by
          rw [if_pos hl, qs_2, qs_2, h.1 m (by omega), h.1 n hn1, show v n = lI (UK v n) from (lI_of _).symm, show v m = lI (UK v m) from (lI_of _).symm, lI_add] at e0
          refine go _ (fr_tr (fr_tr (fr_S ⟨rfl, by omega, by omega⟩) (fr_S ⟨rfl, by omega, by omega⟩)) (fr_T ⟨rfl, by omega, by omega⟩)) ?_ e0
          rw [KP, hd]
          refine ⟨fun S hS => ?_, Or.inr ⟨n, m, BQ_new hn', ?_, ?_, ?_⟩⟩
          · rw [qt_tok (by omega), qs_2, qs_2]; exact h.1 S hS
          · rw [qt_1, qs_ne (by omega), qs_same]
          · rw [qt_1, qs_same]
          · rw [qt_same]
        rcases h.2 with ⟨k1, k2, k3, k4⟩ | ⟨S, T, k1, k2, k3, k4⟩
        · by_cases c3 : 0 < UK v n + UK v m
          · exact new (fun S T q => absurd q (k1 S T)) (by rw [k4]; exact (lI_lt (a := 0) (by omega) (by omega) (by omega) (by omega)).mpr c3)
          · have z : n = 0 ∧ m = 0 := by
              have := k1 0 0
              by_cases q : n = 0 ∧ m = 0
              · exact q
              · exact absurd ⟨⟨hP.2.1, hP.2.1, rfl⟩, by omega⟩ this
            have u0 := hP.2.2
            have z3 : UK v n + UK v m = 0 := by rw [z.1, z.2] at c3 ⊢; omega
            rw [k4, if_neg (show ¬ (0 : Int64) < lI (UK v n + UK v m) from fun q => c3 ((lI_lt (a := 0) (by omega) (by omega) (by omega) (by omega)).mp q))] at e0
            refine go σ fr_rf ?_ e0
            rw [KP, hd]
            refine ⟨h.1, Or.inr ⟨n, m, BQ_new (fun S T q => absurd q (k1 S T)), ?_, ?_, ?_⟩⟩
            · rw [k2, z.1]; rfl
            · rw [k3, z.2]; rfl
            · rw [k4, z3]; rfl
        · have hDS := k1.1.1
          have b3 := hP.1 S hDS.1
          have b4 := hP.1 T hDS.2.1
          by_cases c3 : UK v S + UK v T < UK v n + UK v m
          · exact new (BQ_lt k1 c3) (by rw [k4]; exact (lI_lt (by omega) (by omega) (by omega) (by omega)).mpr c3)
          · rw [k4, if_neg (fun q => c3 ((lI_lt (by omega) (by omega) (by omega) (by omega)).mp q))] at e0
            refine go σ fr_rf ?_ e0
            rw [KP, hd]
            exact ⟨h.1, Or.inr ⟨S, T, BQ_keep k1 c3, k2, k3, k4⟩⟩
    · rw [if_neg (fun q => c1 (hc.mp q))] at e0
      exact go σ fr_rf (skip (fun q => c1 ⟨hS m q.2.1, q.2.2⟩)) e0
theorem k_pt17 {v : Nat → Int64} {o : Nat} (ho : o < 128) (hP : pOk (FKs v) (UK v) 128) (hS : ∀ S, FKs v S → S &&& o = S) : ∀ d n N σ, n + d = 128 → d < N → KP v σ n 0 → ∃ σ', f_X6_part_17 N σ (nI o) (nI n) = some σ' ∧ fr P36 σ σ' ∧ KP v σ' 128 0 := by
  intro d
  induction d with
  | zero =>
    intro n N σ hn hN h
    obtain ⟨N, rfl⟩ : ∃ n', N = n' + 1 := ⟨N - 1, by omega⟩
    have e : n = 128 := by omega
    subst e
    refine ⟨σ, ?_, fr_rf, h⟩
    show f_X6_part_17_B (f_X6_part_17 N) _ _ _ = _
    unfold f_X6_part_17_B
    rw [if_neg (show ¬ nI 128 < (128 : Int32) by decide)]
  | succ d ih =>
    intro n N σ hn hN h
    obtain ⟨N, rfl⟩ : ∃ n', N = n' + 1 := ⟨N - 1, by omega⟩
    have i1 : pp_ix (nI n) 128 := q_ix (by omega) (by omega)
    have e0 : f_X6_part_17 (N + 1) σ (nI o) (nI n) = f_X6_part_17_B (f_X6_part_17 N) σ (nI o) (nI n) := rfl
    unfold f_X6_part_17_B f_X6_part_55 f_X6_partWith at e0
    rw [if_pos (show nI n < (128 : Int32) from nI_lt (b := 128) (by omega) (by omega)), nI_1, if_pos i1, q_cl (k := n) (by omega), h.1 n (by omega), c_wo o ho n (by omega)] at e0
    have hc := c_sub o ho n (by omega)
    have skip : ¬ FKs v n → f_X6_part_17 (N + 1) σ (nI o) (nI n) = f_X6_part_17 N σ (nI o) (nI (n + 1)) → ∃ σ', f_X6_part_17 (N + 1) σ (nI o) (nI n) = some σ' ∧ fr P36 σ σ' ∧ KP v σ' 128 0 := fun q j => by
      obtain ⟨σ2, g1, g2, g3⟩ := ih (n + 1) N σ (by omega) (by omega) (by rw [KP, Dp_norow q]; exact h)
      exact ⟨σ2, j.trans g1, g2, g3⟩
    by_cases c1 : n &&& o = n
    · rw [if_pos (hc.mpr c1)] at e0
      by_cases c2 : v n = NOR
      · rw [if_pos (show v n = (-9223372036854775808 : Int64) from c2)] at e0
        exact skip (fun q => q.2 c2) e0
      · rw [if_neg (show ¬ v n = (-9223372036854775808 : Int64) from c2)] at e0
        obtain ⟨σ1, g1, g2, g3⟩ := k_pW2 ho hP hS (show FKs v n from ⟨by omega, c2⟩) 128 0 100000 σ (by omega) (by omega) h
        obtain ⟨σ2, d1, d2, d3⟩ := ih (n + 1) N σ1 (by omega) (by omega) g3
        rw [show f_X6_partWith_2 100000 σ (nI n) (nI (o ^^^ (o &&& n))) 0 = _ from g1, Option.bind_some] at e0
        exact ⟨σ2, e0.trans d1, fr_tr g2 d2, d3⟩
    · rw [if_neg (fun q => c1 (hc.mp q))] at e0
      exact skip (fun q => c1 (hS n q)) e0
theorem k_part {o : Nat} (ho : o < 128) (hP : pOk (FKs (σ.2 37)) (UK (σ.2 37)) 128) (hS : ∀ S, FKs (σ.2 37) S → S &&& o = S) : ∃ σ' S T, f_X6_part σ (nI o) = some σ' ∧ fr P36 σ σ' ∧ BQ (UK (σ.2 37)) (fun S T => FKs (σ.2 37) S ∧ FKs (σ.2 37) T ∧ S &&& T = 0) S T ∧ σ'.1 36 12 = nI S ∧ σ'.1 36 13 = nI T ∧ σ'.2 36 14 = lI (UK (σ.2 37) S + UK (σ.2 37) T) := by
  have f0 : fr P36 σ (ppT (ppS (ppS σ 36 12 (0 : Int32)) 36 13 (0 : Int32)) 36 14 (0 : Int64)) := fr_tr (fr_tr (fr_S ⟨rfl, by omega, by omega⟩) (fr_S ⟨rfl, by omega, by omega⟩)) (fr_T ⟨rfl, by omega, by omega⟩)
  have k0 : KP (σ.2 37) (ppT (ppS (ppS σ 36 12 (0 : Int32)) 36 13 (0 : Int32)) 36 14 (0 : Int64)) 0 0 := by
    refine ⟨fun S hS => (f0 37 S (by unfold P36; omega)).2, Or.inl ⟨fun S T q => by rw [Dp_0] at q; exact q, ?_, ?_, qt_same _ _ _ _⟩⟩
    · rw [qt_1, qs_ne (by omega), qs_same]
    · rw [qt_1, qs_same]
  obtain ⟨σ1, g1, g2, g3⟩ := k_pt17 ho hP hS 128 0 100000 _ (by omega) (by omega) k0
  rw [KP, BQ_all (fun T hT => (hP.1 T hT).1)] at g3
  rcases g3.2 with ⟨q, _⟩ | ⟨S, T, q1, q2, q3, q4⟩
  · exact absurd ⟨hP.2.1, hP.2.1, rfl⟩ (q 0 0)
  · exact ⟨σ1, S, T, g1, fr_tr f0 g2, q1, q2, q3, q4⟩
/-- the reference's pairs -/
def P40 (t i : Nat) : Prop := t = 40 ∧ 38 ≤ i ∧ i ≤ 40
def FR (v : Nat → Int64) (k S : Nat) : Prop := S < k ∧ v S ≠ lI NG
def MP (v : Nat → Int64) (M : Nat) (ν : pp_M) (n m : Nat) : Prop := (∀ S, S < 32 → ν.2 64 S = v S) ∧ ν.1 40 32 = nI M ∧ (((∀ S T, ¬ Dp (FR v (2 ^ M)) n m S T) ∧ ν.2 40 40 = lI NG) ∨ ∃ S T, BQ (UK v) (Dp (FR v (2 ^ M)) n m) S T ∧ ν.1 40 38 = nI S ∧ ν.1 40 39 = nI T ∧ ν.2 40 40 = lI (UK v S + UK v T))
theorem m_pt25 {v : Nat → Int64} {M n : Nat} (hM : M ≤ 5) (hP : pOk (FR v (2 ^ M)) (UK v) (2 ^ M)) (k13 : pp_M → Int32 → Option pp_M) (hn : n < 2 ^ M) : ∀ d m N ν, m + d = 2 ^ M → d < N → MP v M ν n m → ∃ ν', f_X9_parted_25 k13 N ν (nI n) (nI m) = k13 ν' (nI (n + 1)) ∧ fr P40 ν ν' ∧ MP v M ν' (n + 1) 0 := by
  have h5 : (2 : Nat) ^ M ≤ 2 ^ 5 := Nat.pow_le_pow_right (by omega) hM
  have hNG : NG = -1000000000000000000 := rfl
  intro d
  induction d with
  | zero =>
    intro m N ν hm hN h
    obtain ⟨N, rfl⟩ : ∃ n', N = n' + 1 := ⟨N - 1, by omega⟩
    have e : m = 2 ^ M := by omega
    subst e
    have h32 := h.2.1
    rw [MP, Dp_row (fun T hT => (hP.1 T hT).1)] at h
    refine ⟨ν, ?_, fr_rf, h⟩
    show f_X9_parted_25_B k13 (f_X9_parted_25 k13 N) _ _ _ = _
    unfold f_X9_parted_25_B
    rw [h32, bit_sh (by omega), if_neg (q_nlt _), nI_1]
  | succ d ih =>
    intro m N ν hm hN h
    obtain ⟨N, rfl⟩ : ∃ n', N = n' + 1 := ⟨N - 1, by omega⟩
    have i1 : pp_ix (nI m) 32 := q_ix (by omega) (by omega)
    have i2 : pp_ix (nI n) 32 := q_ix (by omega) (by omega)
    have e0 : f_X9_parted_25 k13 (N + 1) ν (nI n) (nI m) = f_X9_parted_25_B k13 (f_X9_parted_25 k13 N) ν (nI n) (nI m) := rfl
    unfold f_X9_parted_25_B f_X9_parted_115 at e0
    rw [h.2.1, bit_sh (by omega), if_pos (nI_lt (by omega) (by omega)), nI_1, if_pos i2, if_pos i1, q_cl (k := m) (by omega), q_cl (k := n) (by omega), h.1 m (by omega), h.1 n (by omega), nI_and, NG_l] at e0
    have go : ∀ ν1, fr P40 ν ν1 → MP v M ν1 n (m + 1) → f_X9_parted_25 k13 (N + 1) ν (nI n) (nI m) = f_X9_parted_25 k13 N ν1 (nI n) (nI (m + 1)) → ∃ ν', f_X9_parted_25 k13 (N + 1) ν (nI n) (nI m) = k13 ν' (nI (n + 1)) ∧ fr P40 ν ν' ∧ MP v M ν' (n + 1) 0 := fun ν1 j1 j2 j3 => by
      obtain ⟨ν2, g1, g2, g3⟩ := ih (m + 1) N ν1 (by omega) (by omega) j2
      exact ⟨ν2, j3.trans g1, fr_tr j1 g2, g3⟩
    have skip : ¬ (FR v (2 ^ M) n ∧ FR v (2 ^ M) m ∧ n &&& m = 0) → MP v M ν n (m + 1) := fun q => by
      rw [MP, Dp_skip q]
      exact h
    have hle : n &&& m ≤ n := Nat.and_le_left
    have hc : nI (n &&& m) = (0 : Int32) ↔ n &&& m = 0 := nI_eqI (b := 0) (by omega) (by omega)
    by_cases c1 : n &&& m = 0
    · rw [if_pos (hc.mpr c1)] at e0
      by_cases c2 : v n = lI NG
      · rw [if_pos c2] at e0
        exact go ν fr_rf (skip (fun q => q.1.2 c2)) e0
      rw [if_neg c2] at e0
      by_cases c3 : v m = lI NG
      · rw [if_pos c3] at e0
        exact go ν fr_rf (skip (fun q => q.2.1.2 c3)) e0
      rw [if_neg c3] at e0
      have hFn : FR v (2 ^ M) n := ⟨hn, c2⟩
      have hFm : FR v (2 ^ M) m := ⟨by omega, c3⟩
      have b1 := hP.1 n hFn
      have b2 := hP.1 m hFm
      have hd := Dp_add (F := FR v (2 ^ M)) (n := n) (m := m) ⟨hFn, hFm, c1⟩
      rw [show v n = lI (UK v n) from (lI_of _).symm, show v m = lI (UK v m) from (lI_of _).symm, lI_add] at e0
      have new : (∀ S T, Dp (FR v (2 ^ M)) n m S T → UK v S + UK v T < UK v n + UK v m) → ν.2 40 40 < lI (UK v n + UK v m) → ∃ ν', f_X9_parted_25 k13 (N + 1) ν (nI n) (nI m) = k13 ν' (nI (n + 1)) ∧ fr P40 ν ν' ∧ MP v M ν' (n + 1) 0 := fun hn' hl => by
        rw [if_pos hl] at e0
        refine go _ (fr_tr (fr_tr (fr_T ⟨rfl, by omega, by omega⟩) (fr_S ⟨rfl, by omega, by omega⟩)) (fr_S ⟨rfl, by omega, by omega⟩)) ?_ e0
        rw [MP, hd]
        refine ⟨fun S hS => ?_, ?_, Or.inr ⟨n, m, BQ_new hn', ?_, ?_, ?_⟩⟩
        · rw [qs_2, qs_2, qt_tok (by omega)]; exact h.1 S hS
        · rw [qs_ne (by omega), qs_ne (by omega), qt_1]; exact h.2.1
        · rw [qs_ne (by omega), qs_same]
        · rw [qs_same]
        · rw [qs_2, qs_2, qt_same]
      rcases h.2.2 with ⟨k1, k4⟩ | ⟨S, T, k1, k2, k3, k4⟩
      · exact new (fun S T q => absurd q (k1 S T)) (by rw [k4]; exact (lI_lt (by omega) (by omega) (by omega) (by omega)).mpr (by omega))
      · have hDS := k1.1.1
        have b3 := hP.1 S hDS.1
        have b4 := hP.1 T hDS.2.1
        by_cases c5 : UK v S + UK v T < UK v n + UK v m
        · exact new (BQ_lt k1 c5) (by rw [k4]; exact (lI_lt (by omega) (by omega) (by omega) (by omega)).mpr c5)
        · rw [k4, if_neg (fun q => c5 ((lI_lt (by omega) (by omega) (by omega) (by omega)).mp q))] at e0
          refine go ν fr_rf ?_ e0
          rw [MP, hd]
          exact ⟨h.1, h.2.1, Or.inr ⟨S, T, BQ_keep k1 c5, k2, k3, k4⟩⟩
    · rw [if_neg (fun q => c1 (hc.mp q))] at e0
      exact go ν fr_rf (skip (fun q => c1 q.2.2)) e0
theorem m_pt13 {v : Nat → Int64} {M : Nat} (hM : M ≤ 5) (hP : pOk (FR v (2 ^ M)) (UK v) (2 ^ M)) : ∀ d n N ν, n + d = 2 ^ M → d < N → MP v M ν n 0 → ∃ ν', f_X9_parted_13 N ν (nI n) = some ν' ∧ fr P40 ν ν' ∧ MP v M ν' (2 ^ M) 0 := by
  have h5 : (2 : Nat) ^ M ≤ 2 ^ 5 := Nat.pow_le_pow_right (by omega) hM
  intro d
  induction d with
  | zero =>
    intro n N ν hn hN h
    obtain ⟨N, rfl⟩ : ∃ n', N = n' + 1 := ⟨N - 1, by omega⟩
    have e : n = 2 ^ M := by omega
    subst e
    refine ⟨ν, ?_, fr_rf, h⟩
    show f_X9_parted_13_B (f_X9_parted_13 N) _ _ = _
    unfold f_X9_parted_13_B
    rw [h.2.1, bit_sh (by omega), if_neg (q_nlt _)]
  | succ d ih =>
    intro n N ν hn hN h
    obtain ⟨N, rfl⟩ : ∃ n', N = n' + 1 := ⟨N - 1, by omega⟩
    obtain ⟨ν1, g1, g2, g3⟩ := m_pt25 hM hP (f_X9_parted_13 N) (show n < 2 ^ M by omega) (2 ^ M) 0 100000 ν (by omega) (by omega) h
    obtain ⟨ν2, d1, d2, d3⟩ := ih (n + 1) N ν1 (by omega) (by omega) g3
    refine ⟨ν2, ?_, fr_tr g2 d2, d3⟩
    show f_X9_parted_13_B (f_X9_parted_13 N) _ _ = _
    unfold f_X9_parted_13_B
    rw [h.2.1, bit_sh (by omega), if_pos (nI_lt (by omega) (by omega)), show f_X9_parted_25 (f_X9_parted_13 N) 100000 ν (nI n) 0 = _ from g1]
    exact d1
end PART
