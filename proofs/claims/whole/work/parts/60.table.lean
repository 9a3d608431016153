/-! the class's table of best rows by sets -/
section TABLE
variable {Ca : pp_M → pp_M → Prop} {σ μ ν : pp_M} {V : List Nat → Int} {C : List Nat → Prop}
def code8 : List Nat → Nat
  | [] => 0
  | f :: fs => f * 8 ^ fs.length + code8 fs
def bset : List Nat → Nat
  | [] => 0
  | f :: fs => 2 ^ (f - 1) ||| bset fs
/-- rows that may be: no farm twice, all allowed -/
def vR (a : Nat) (R : List Nat) : Prop := R.length ≤ 5 ∧ R.Nodup ∧ ∀ f ∈ R, 1 ≤ f ∧ f ≤ 7 ∧ a.testBit (f - 1) = true
theorem code8_lt : ∀ (R : List Nat), (∀ f ∈ R, f ≤ 7) → code8 R < 8 ^ R.length
  | [], _ => by show 0 < 1; omega
  | f :: fs, h => by
    have ih := code8_lt fs (fun g hg => h g (List.mem_cons_of_mem _ hg))
    have hf := h f (List.mem_cons_self ..)
    show f * 8 ^ fs.length + code8 fs < 8 ^ (fs.length + 1)
    rw [Nat.pow_succ]
    have := Nat.mul_le_mul_right (8 ^ fs.length) hf
    omega
theorem bset_lt : ∀ (R : List Nat), (∀ f ∈ R, 1 ≤ f ∧ f ≤ 7) → bset R < 2 ^ 7
  | [], _ => by show 0 < 128; omega
  | f :: fs, h => by
    have hf := h f (List.mem_cons_self ..)
    exact Nat.or_lt_two_pow (Nat.pow_lt_pow_right (by omega) (by omega)) (bset_lt fs (fun g hg => h g (List.mem_cons_of_mem _ hg)))
theorem bset_bit : ∀ (R : List Nat) (f : Nat), 1 ≤ f → (∀ g ∈ R, 1 ≤ g) → ((bset R).testBit (f - 1) = true ↔ f ∈ R)
  | [], f, _, _ => by
    show (0 : Nat).testBit (f - 1) = true ↔ _
    rw [Nat.zero_testBit]
    exact ⟨fun h => (by cases h), fun h => (by cases h)⟩
  | g :: fs, f, hf, h => by
    have hg := h g (List.mem_cons_self ..)
    have ih := bset_bit fs f hf (fun x hx => h x (List.mem_cons_of_mem _ hx))
    show (2 ^ (g - 1) ||| bset fs).testBit (f - 1) = true ↔ _
    rw [Nat.testBit_or, Nat.testBit_two_pow, Bool.or_eq_true, ih, decide_eq_true_eq, List.mem_cons]
    constructor
    · rintro (h1 | h1)
      · exact Or.inl (by omega)
      · exact Or.inr h1
    · rintro (h1 | h1)
      · exact Or.inl (by omega)
      · exact Or.inr h1
def NOR : Int64 := -9223372036854775808
/-- the table is the best of the rows of C, set by set -/
def TBL (σ : pp_M) (V : List Nat → Int) (C : List Nat → Prop) : Prop := ∀ S, S < 128 → (σ.2 37 S = NOR ∧ σ.1 38 S = 0 ∧ ∀ R, C R → bset R ≠ S) ∨ (∃ R, C R ∧ bset R = S ∧ σ.2 37 S = lI (V R) ∧ σ.1 38 S = nI (code8 R) ∧ ∀ R', C R' → bset R' = S → V R' < V R ∨ (V R' = V R ∧ code8 R ≤ code8 R'))
/-- rows have figures of farms, and values in range -/
def rOk (V : List Nat → Int) (C : List Nat → Prop) : Prop := ∀ R, C R → R.length ≤ 5 ∧ (∀ f ∈ R, 1 ≤ f ∧ f ≤ 7) ∧ -10000000000000 ≤ V R ∧ V R ≤ 10000000000000
def P37 (t i : Nat) : Prop := t = 37 ∨ t = 38
theorem code8_31 {R : List Nat} (h : R.length ≤ 5) (h7 : ∀ f ∈ R, f ≤ 7) : code8 R < 32768 := by
  have h1 := code8_lt R h7
  have h2 : (8 : Nat) ^ R.length ≤ 8 ^ 5 := Nat.pow_le_pow_right (by omega) h
  omega
theorem NOR_lt {z : Int} (h1 : -10000000000000 ≤ z) (h2 : z ≤ 10000000000000) : NOR < lI z ∧ ¬ lI z = NOR := by
  have e : NOR.toInt = -9223372036854775808 := rfl
  refine ⟨?_, fun q => ?_⟩
  · rw [q_lt64, lI_toInt (by omega) (by omega), e]; omega
  · have := congrArg Int64.toInt q
    rw [lI_toInt (by omega) (by omega), e] at this
    omega
/-- is a value with a code better than what stands -/
theorem k_isBetter (hT : TBL σ V C) (hC : rOk V C) {S c : Nat} {z : Int} (hS : S < 128) (hc : c < 2 ^ 31) (hz1 : -10000000000000 ≤ z) (hz2 : z ≤ 10000000000000) : ∃ b : Int32, f_X6_isBetter σ (nI S) (nI c) (lI z) = some (b, σ) ∧ (b = 0 ∨ b = 1) ∧ (b = 1 ↔ ∀ R, C R → bset R = S → V R < z ∨ (V R = z ∧ c < code8 R) ∨ ∃ R', C R' ∧ bset R' = S ∧ (V R < V R' ∨ (V R = V R' ∧ code8 R' < code8 R))) := by
  have i1 : pp_ix (nI S) 128 := q_ix (by omega) (by omega)
  unfold f_X6_isBetter f_X6_isBetter_32
  rw [if_pos i1]
  simp only [q_cl (k := S) (show S < 2 ^ 31 by omega)]
  rcases hT S hS with ⟨t1, t2, t3⟩ | ⟨R, r1, r2, r3, r4, r5⟩
  · rw [t1, if_pos (NOR_lt hz1 hz2).1]
    exact ⟨1, rfl, Or.inr rfl, fun _ R hR hb => absurd hb (t3 R hR), fun _ => rfl⟩
  · obtain ⟨o1, o2, o3, o4⟩ := hC R r1
    have hcl := code8_31 o1 (fun f hf => (o2 f hf).2)
    rw [r3, r4]
    by_cases c1 : V R < z
    · rw [if_pos ((lI_lt (by omega) (by omega) (by omega) (by omega)).mpr c1)]
      refine ⟨1, rfl, Or.inr rfl, fun _ R' hR' hb => ?_, fun _ => rfl⟩
      rcases r5 R' hR' hb with q | q
      · exact Or.inl (by omega)
      · exact Or.inl (by omega)
    · rw [if_neg (fun q => c1 ((lI_lt (by omega) (by omega) (by omega) (by omega)).mp q))]
      have neg : ¬ (z = V R ∧ c < code8 R) → ¬ ∀ R, C R → bset R = S → V R < z ∨ (V R = z ∧ c < code8 R) ∨ ∃ R', C R' ∧ bset R' = S ∧ (V R < V R' ∨ (V R = V R' ∧ code8 R' < code8 R)) := fun hn hall => by
        rcases hall R r1 r2 with q | q | ⟨R', q1, q2, q3⟩
        · exact c1 q
        · exact hn ⟨q.1.symm, q.2⟩
        · rcases r5 R' q1 q2 with p | p <;> rcases q3 with q3 | q3 <;> omega
      by_cases c2 : z = V R
      · rw [if_pos (by rw [c2])]
        by_cases c3 : c < code8 R
        · rw [if_pos (nI_lt c3 (by omega))]
          refine ⟨1, rfl, Or.inr rfl, fun _ R' hR' hb => ?_, fun _ => rfl⟩
          rcases r5 R' hR' hb with q | q
          · exact Or.inl (by omega)
          · exact Or.inr (Or.inl ⟨by omega, by omega⟩)
        · rw [if_neg (q_nl (by omega) (by omega))]
          exact ⟨0, rfl, Or.inl rfl, fun q => absurd q (by decide), fun q => absurd q (neg (fun p => c3 p.2))⟩
      · rw [if_neg (fun q => c2 ((lI_inj (by omega) (by omega) (by omega) (by omega)).mp q))]
        exact ⟨0, rfl, Or.inl rfl, fun q => absurd q (by decide), fun q => absurd q (neg (fun p => c2 p.1))⟩
/-- a row that is not better than what stands may be counted in -/
theorem TBL_skip (hT : TBL σ V C) {Q : List Nat} (h : ∃ R, C R ∧ bset R = bset Q ∧ (V Q < V R ∨ (V Q = V R ∧ code8 R ≤ code8 Q))) : TBL σ V (fun R => C R ∨ R = Q) := fun S hS => by
  obtain ⟨R0, a1, a2, a3⟩ := h
  rcases hT S hS with ⟨t1, t2, t3⟩ | ⟨R, r1, r2, r3, r4, r5⟩
  · refine Or.inl ⟨t1, t2, fun R hR => ?_⟩
    rcases hR with hR | hR
    · exact t3 R hR
    · rw [hR, ← a2]; exact t3 R0 a1
  · refine Or.inr ⟨R, Or.inl r1, r2, r3, r4, fun R' hR' hb => ?_⟩
    rcases hR' with hR' | hR'
    · exact r5 R' hR' hb
    · subst hR'
      have := r5 R0 a1 (by omega)
      omega
theorem k_keep (hT : TBL σ V C) (hC : rOk V C) {Q : List Nat} (hQ : Q.length ≤ 5 ∧ (∀ f ∈ Q, 1 ≤ f ∧ f ≤ 7) ∧ -10000000000000 ≤ V Q ∧ V Q ≤ 10000000000000) : ∃ σ', f_X6_keep σ (nI (bset Q)) (nI (code8 Q)) (lI (V Q)) = some σ' ∧ fr P37 σ σ' ∧ TBL σ' V (fun R => C R ∨ R = Q) := by
  have hS : bset Q < 128 := bset_lt Q hQ.2.1
  have hcl := code8_31 hQ.1 (fun f hf => (hQ.2.1 f hf).2)
  have i1 : pp_ix (nI (bset Q)) 128 := q_ix (by omega) (by omega)
  obtain ⟨b, b1, b2, b3⟩ := k_isBetter hT hC hS (show code8 Q < 2 ^ 31 by omega) hQ.2.2.1 hQ.2.2.2
  unfold f_X6_keep
  rw [b1, Option.bind_some]
  by_cases c : b = 0
  · rw [if_pos c]
    refine ⟨σ, rfl, fr_rf, ?_⟩
    have hn : ¬ ∀ R, C R → bset R = bset Q → V R < V Q ∨ (V R = V Q ∧ code8 Q < code8 R) ∨ ∃ R', C R' ∧ bset R' = bset Q ∧ (V R < V R' ∨ (V R = V R' ∧ code8 R' < code8 R)) := fun q => by
      have := b3.mpr q
      rw [c] at this
      exact absurd this (by decide)
    rcases hT (bset Q) hS with ⟨t1, t2, t3⟩ | ⟨R, r1, r2, r3, r4, r5⟩
    · exact absurd (fun R hR hb => absurd hb (t3 R hR)) hn
    · refine TBL_skip hT ⟨R, r1, r2, ?_⟩
      apply Classical.byContradiction
      intro hh
      apply hn
      intro R' hR' hb
      have := r5 R' hR' hb
      by_cases c5 : V R' < V R
      · exact Or.inr (Or.inr ⟨R, r1, r2, Or.inl c5⟩)
      · by_cases c6 : code8 R < code8 R'
        · exact Or.inr (Or.inr ⟨R, r1, r2, Or.inr ⟨by omega, c6⟩⟩)
        · by_cases c7 : V R < V Q
          · exact Or.inl (by omega)
          · exact Or.inr (Or.inl ⟨by omega, by omega⟩)
  · have hb1 : b = 1 := by rcases b2 with h | h; exact absurd h c; exact h
    have hall := b3.mp hb1
    rw [if_neg c, if_pos i1, q_cl (k := bset Q) (by omega)]
    refine ⟨_, rfl, fr_tr (fr_T (Or.inl rfl)) (fr_S (Or.inr rfl)), fun S hS' => ?_⟩
    by_cases e : S = bset Q
    · subst e
      refine Or.inr ⟨Q, Or.inr rfl, rfl, ?_, ?_, fun R' hR' hb => ?_⟩
      · rw [qs_2, qt_same]
      · rw [qs_same]
      · rcases hR' with hR' | hR'
        · rcases hT (bset Q) hS with ⟨t1, t2, t3⟩ | ⟨R, r1, r2, r3, r4, r5⟩
          · exact absurd hb (t3 R' hR')
          · have h5 := r5 R' hR' hb
            rcases hall R r1 r2 with q | q | ⟨R2, q1, q2, q3⟩
            · omega
            · omega
            · have := r5 R2 q1 q2
              omega
        · rw [hR']; exact Or.inr ⟨rfl, Nat.le_refl _⟩
    · rw [qs_2, qt_ne (fun q => e q.2), qs_ne (fun q => e q.2), qt_1]
      rcases hT S hS' with ⟨t1, t2, t3⟩ | ⟨R, r1, r2, r3, r4, r5⟩
      · refine Or.inl ⟨t1, t2, fun R hR => ?_⟩
        rcases hR with hR | hR
        · exact t3 R hR
        · rw [hR]; exact fun q => e q.symm
      · refine Or.inr ⟨R, Or.inl r1, r2, r3, r4, fun R' hR' hb => ?_⟩
        rcases hR' with hR' | hR'
        · exact r5 R' hR' hb
        · rw [hR'] at hb; exact absurd hb.symm e
theorem TBL_fr {σ σ' : pp_M} (h : TBL σ V C) (hf : ∀ i, σ'.2 37 i = σ.2 37 i ∧ σ'.1 38 i = σ.1 38 i) : TBL σ' V C := fun S hS => by
  rw [(hf S).1, (hf S).2]
  exact h S hS
theorem TBL_iff {σ : pp_M} {C C' : List Nat → Prop} (h : TBL σ V C) (hc : ∀ R, C R ↔ C' R) : TBL σ V C' := by
  have : C' = C := funext fun R => propext (hc R).symm
  rw [this]; exact h
end TABLE
