/-! what the class's search finds -/
section SEARCH
variable {Ca : pp_M → pp_M → Prop} {σ μ ν : pp_M} {V : List Nat → Int} {C : List Nat → Prop}
def P3738 (t i : Nat) : Prop := t = 37 ∨ t = 38 ∨ (t = 23 ∧ i < 30)
theorem k_cl2 : ∀ m b n σ, b + m = 128 → m < n → (∀ S, S < b → σ.2 37 S = NOR ∧ σ.1 38 S = 0) → ∃ σ', f_X6_clear_2 n σ (nI b) = (f_X0_comeHome σ').bind (fun x => some x) ∧ fr P37 σ σ' ∧ ∀ S, S < 128 → σ'.2 37 S = NOR ∧ σ'.1 38 S = 0 := by
  intro m
  induction m with
  | zero =>
    intro b n σ hb hn h0
    obtain ⟨n, rfl⟩ : ∃ n', n = n' + 1 := ⟨n - 1, by omega⟩
    have : b = 128 := by omega
    subst this
    refine ⟨σ, ?_, fr_rf, h0⟩
    show f_X6_clear_2_B (f_X6_clear_2 n) _ _ = _
    unfold f_X6_clear_2_B
    rw [if_neg (show ¬ nI 128 < (128 : Int32) from q_nlt 128)]
  | succ m ih =>
    intro b n σ hb hn h0
    obtain ⟨n, rfl⟩ : ∃ n', n = n' + 1 := ⟨n - 1, by omega⟩
    obtain ⟨σ', g1, g2, g3⟩ := ih (b + 1) n (ppS (ppT σ 37 b NOR) 38 b 0) (by omega) (by omega) (fun S hS => by
      by_cases c : S = b
      · subst c; rw [qs_2, qt_same, qs_same]; exact ⟨rfl, rfl⟩
      · rw [qs_2, qt_ne (fun q => c q.2), qs_ne (fun q => c q.2)]; exact h0 S (by omega))
    refine ⟨σ', ?_, fr_tr (fr_tr (fr_T (Or.inl rfl)) (fr_S (Or.inr rfl))) g2, g3⟩
    show f_X6_clear_2_B (f_X6_clear_2 n) _ _ = _
    unfold f_X6_clear_2_B
    have i1 : pp_ix (nI b) 128 := q_ix (by omega) (by omega)
    rw [if_pos (show nI b < (128 : Int32) from nI_lt (b := 128) (by omega) (by omega)), if_pos i1, q_cl (k := b) (by omega), nI_1]
    exact g1
theorem k_clear (h : Rel0 σ μ) : ∃ σ', f_X6_clear σ = some σ' ∧ fr P3738 σ σ' ∧ TBL σ' V (fun _ => False) ∧ WR σ' μ [] := by
  obtain ⟨σ1, g1, g2, g3⟩ := k_cl2 128 0 100000 σ (by omega) (by omega) (fun S hS => by omega)
  have f1 : fr sK2 σ σ1 := fr_mono g2 (fun t i q => by unfold P37 at q; unfold sK2; omega)
  obtain ⟨σ', d1, d2, d3⟩ := k_comeHome (base_s h.1 f1 fr_rf) h.2.1
  refine ⟨σ', ?_, fr_tr (fr_mono g2 (fun t i q => by unfold P37 at q; unfold P3738; omega)) (fr_mono d2 (fun t i q => by unfold P23 at q; unfold P3738; omega)), fun S hS => Or.inl ⟨?_, ?_, fun R hR => hR.elim⟩, d3⟩
  · unfold f_X6_clear
    rw [show f_X6_clear_2 100000 σ 0 = _ from g1, d1, Option.bind_some]
  · rw [(d2 37 S (by unfold P23; omega)).2]; exact (g3 S hS).1
  · rw [(d2 38 S (by unfold P23; omega)).1]; exact (g3 S hS).2
/-- from cleared tables to full ones -/
theorem k_full (hI : Inv μ) {wp a st : Nat} {hl : Int32} (ha : a < 128) (hst : st < 8) (hj : JOK μ wp a st hl V) (hVb : ∀ Q, vR a Q → -10000000000000 ≤ V Q ∧ V Q ≤ 10000000000000) (hS : SV σ μ wp a st hl) : ∃ σ1 σ', f_X6_clear σ = some σ1 ∧ f_X6_lengthen 8 σ1 0 0 0 0 0 = some σ' ∧ fr (fun t i => LF 0 t i ∨ t = 23) σ σ' ∧ TBL σ' V (okRw (DW μ) a st hl.toInt) := by
  obtain ⟨σ1, g1, g2, g3, g4⟩ := k_clear (V := V) hS.1
  have f1 : fr sK2 σ σ1 := fr_mono g2 (fun t i q => by unfold P3738 at q; unfold sK2 sK; omega)
  have S1 : SV σ1 μ wp a st hl := by
    obtain ⟨h0, h1, h2, h3, h4, h5⟩ := hS
    refine ⟨r0_s h0 f1 fr_rf, ?_, ?_, ?_, ?_, fun q => ?_⟩
    · rw [(g2 36 7 (by unfold P3738; omega)).1]; exact h1
    · rw [(g2 36 8 (by unfold P3738; omega)).1]; exact h2
    · rw [(g2 36 9 (by unfold P3738; omega)).1]; exact h3
    · rw [(g2 36 10 (by unfold P3738; omega)).1]; exact h4
    · rw [(g2 36 11 (by unfold P3738; omega)).1]; exact h5 q
  obtain ⟨σ', d1, d2, d3⟩ := k_len hI ha hst hj hVb 8 [] σ1 (fun _ => False) (by show 5 - 0 < 8; omega) ⟨by show 0 ≤ 5; omega, List.nodup_nil, fun f hf => by cases hf⟩ S1 g4 g3 (fun R hR => hR.elim)
  refine ⟨σ1, σ', g1, d1, fr_tr (fr_mono g2 (fun t i q => by unfold P3738 at q; unfold LF; omega)) (fr_mono d2 (fun t i q => Or.inl q)), TBL_iff d3 (fun Q => ⟨fun h => ?_, fun h => Or.inr ⟨List.nil_suffix, h⟩⟩)⟩
  rcases h with h | h
  · exact h.elim
  · exact h.2
def Op (μ : pp_M) : Nat := (μ.1 40 8).toInt.toNat
theorem Op_ok (hI : Inv μ) : μ.1 40 8 = nI (Op μ) ∧ Op μ < 128 := by
  have h := hI.2.2.2.2.2.2.2.2.2.2.2
  unfold bd at h
  unfold Op
  obtain ⟨j, hj, e⟩ := q_of (x := μ.1 40 8) (n := 127) h.1 h.2
  rw [e, nI_toInt (by omega)]
  exact ⟨rfl, by omega⟩
def OKr (μ : pp_M) (Q : List Nat) : Prop := okRw (DW μ) (Op μ) 0 (μ.1 40 6).toInt Q
/-- what is kept of a search -/
def CaD (σ μ : pp_M) : Prop := TBL σ (Vr μ) (OKr μ)
theorem v8 {a : Nat} {Q : List Nat} (h : vR a Q) : (∀ g ∈ Q, g < 8) ∧ Q.length ≤ 7 := ⟨fun g hg => by have := h.2.2 g hg; omega, by have := h.1; omega⟩
theorem rOk_r (hI : Inv μ) : rOk (Vr μ) (OKr μ) := fun R hR => by
  have hb := Vr_bd hI (v8 hR.1).2 (v8 hR.1).1
  exact ⟨hR.1.1, fun f hf => ⟨(hR.1.2.2 f hf).1, (hR.1.2.2 f hf).2.1⟩, by omega, by omega⟩
theorem k_findRounds (h : Rel CaD σ μ) : ∃ σ', f_X6_findRounds σ (σ.1 0 13) (σ.1 0 11) (σ.1 0 12) = some σ' ∧ TBL σ' (Vr μ) (OKr μ) ∧ Rel CaD σ' μ := by
  have hI := h.2.1
  unfold f_X6_findRounds
  rcases h.2.2.2.1 with h6 | ⟨h6, hca⟩
  · rw [if_pos h6]
    have e13 : σ.1 0 13 = nI (Op μ) := by rw [h.1.2.2.2.2.2.2.2.2.2.2.2.2.2, (Op_ok hI).1]
    have e11 : σ.1 0 11 = μ.1 40 6 := h.1.2.2.2.2.2.2.2.2.2.2.2.1
    have e12 := Lm_K h.1 hI
    have f0 : fr sK2 σ (ppS (ppS (ppS (ppS (ppS σ 36 7 (0 : Int32)) 36 8 (σ.1 0 13)) 36 9 (0 : Int32)) 36 10 (σ.1 0 11)) 36 11 (σ.1 0 12)) := fr_tr (fr_tr (fr_tr (fr_tr (fr_S (by unfold sK2; omega)) (fr_S (by unfold sK2; omega))) (fr_S (by unfold sK2; omega))) (fr_S (by unfold sK2; omega))) (fr_S (by unfold sK2; omega))
    have S0 : SV (ppS (ppS (ppS (ppS (ppS σ 36 7 (0 : Int32)) 36 8 (σ.1 0 13)) 36 9 (0 : Int32)) 36 10 (σ.1 0 11)) 36 11 (σ.1 0 12)) μ 0 (Op μ) 0 (μ.1 40 6) := by
      refine ⟨r0_s (rel_to0 h) f0 fr_rf, ?_, ?_, ?_, ?_, fun _ => ?_⟩
      · rw [qs_ne (by omega), qs_ne (by omega), qs_ne (by omega), qs_ne (by omega), qs_same]; rfl
      · rw [qs_ne (by omega), qs_ne (by omega), qs_ne (by omega), qs_same, e13]
      · rw [qs_ne (by omega), qs_ne (by omega), qs_same]; rfl
      · rw [qs_ne (by omega), qs_same, e11]
      · rw [qs_same, e12]
    obtain ⟨σ1, σ2, g1, g2, g3, g4⟩ := k_full hI (V := Vr μ) (Op_ok hI).2 (show 0 < 8 by omega) (fun σ C Q a1 a2 a3 a4 a5 => k_judgeR hI a1 a2 a3 a4 a5) (fun Q hQ => by
      have hb := Vr_bd hI (v8 hQ).2 (v8 hQ).1
      omega) S0
    rw [g1, Option.bind_some, g2, Option.bind_some]
    have T : TBL (ppS σ2 36 6 1) (Vr μ) (OKr μ) := TBL_fr g4 (fun i => ⟨rfl, qs_tok (by omega)⟩)
    have f2 : fr sK2 σ (ppS σ2 36 6 1) := fr_tr f0 (fr_tr (fr_mono g3 (fun t i q => by unfold LF at q; unfold sK2 sK; omega)) (fr_S (by unfold sK2; omega)))
    have r0 := r0_s (rel_to0 h) f2 (fr_rf (σ := μ))
    exact ⟨_, rfl, T, r0.1, r0.2.1, r0.2.2.1, Or.inr ⟨qs_same _ _ _ _, T⟩, r0.2.2.2⟩
  · rw [if_neg (by rw [h6]; decide)]
    exact ⟨σ, rfl, hca, h⟩
/-- the open farms without one -/
def opx (o b : Nat) : Nat := if o.testBit b then o - 2 ^ b else o
theorem opx_i : ∀ o, o < 128 → ∀ b, b < 7 → nI o &&& (nI (2 ^ b) ^^^ (-1 : Int32)) = nI (opx o b) ∧ opx o b < 128 := by decide +kernel
theorem opx_b : ∀ o, o < 128 → ∀ b, b < 7 → ∀ i, i < 7 → (opx o b).testBit i = (o.testBit i && !(i == b)) := by decide +kernel
/-- who may be called at from a place -/
def opA (o p : Nat) : Nat := if p = 0 then o else opx o (p - 1)
def OKo (μ : pp_M) (p h : Nat) (Q : List Nat) : Prop := okRw (DW μ) (opA (Op μ) p) p ((μ.1 40 6).toInt - h) Q
theorem rOk_o (hI : Inv μ) (p h : Nat) : rOk (Vo μ) (OKo μ p h) := fun R hR => by
  have hb := Vo_bd hI (v8 hR.1).2 (v8 hR.1).1
  exact ⟨hR.1.1, fun f hf => ⟨(hR.1.2.2 f hf).1, (hR.1.2.2 f hf).2.1⟩, by omega, by omega⟩
theorem k_fO27 {p hh : Nat} (h : Rel0 σ μ) (hp : p < 8) (hh2 : hh ≤ 200) (h7 : σ.1 36 7 = 1) (h6 : σ.1 36 6 = 0) (ha : opA (Op μ) p < 128) : ∃ σ', f_X6_findOnward_27 σ (μ.1 40 6) (nI p) (nI hh) (nI (opA (Op μ) p)) = some σ' ∧ TBL σ' (Vo μ) (OKo μ p hh) ∧ Rel Ca σ' μ := by
  have hI := h.2.1
  have hd := hI.2.2.2.2.2.2.2.2.2.1
  unfold bd at hd
  have f0 : fr sK2 σ (ppS (ppS (ppS σ 36 8 (nI (opA (Op μ) p))) 36 9 (nI p)) 36 10 (μ.1 40 6 - nI hh)) := fr_tr (fr_tr (fr_S (by unfold sK2; omega)) (fr_S (by unfold sK2; omega))) (fr_S (by unfold sK2; omega))
  have S0 : SV (ppS (ppS (ppS σ 36 8 (nI (opA (Op μ) p))) 36 9 (nI p)) 36 10 (μ.1 40 6 - nI hh)) μ 1 (opA (Op μ) p) p (μ.1 40 6 - nI hh) := by
    refine ⟨r0_s h f0 fr_rf, ?_, ?_, ?_, ?_, fun q => by omega⟩
    · rw [qs_ne (by omega), qs_ne (by omega), qs_ne (by omega), h7]; rfl
    · rw [qs_ne (by omega), qs_ne (by omega), qs_same]
    · rw [qs_ne (by omega), qs_same]
    · rw [qs_same]
  obtain ⟨σ1, σ2, g1, g2, g3, g4⟩ := k_full hI (V := Vo μ) ha hp (fun σ C Q a1 a2 a3 a4 a5 => k_judgeO hI a1 a2 a3 a4 a5) (fun Q hQ => by
    have hb := Vo_bd hI (v8 hQ).2 (v8 hQ).1
    omega) S0
  have eI : (μ.1 40 6 - nI hh).toInt = (μ.1 40 6).toInt - hh := by
    rw [Int32.toInt_sub, nI_toInt (by omega)]
    exact Int.bmod_eq_of_le (by omega) (by omega)
  rw [eI] at g4
  unfold f_X6_findOnward_27
  rw [g1, Option.bind_some, g2, Option.bind_some]
  have f2 : fr sK2 σ σ2 := fr_tr f0 (fr_mono g3 (fun t i q => by unfold LF at q; unfold sK2 sK; omega))
  have r0 := r0_s h f2 (fr_rf (σ := μ))
  refine ⟨σ2, rfl, g4, r0.1, r0.2.1, r0.2.2.1, Or.inl ?_, r0.2.2.2⟩
  rw [(g3 36 6 (by unfold LF; omega)).1, qs_ne (by omega), qs_ne (by omega), qs_ne (by omega)]
  exact h6
theorem k_findOnward (h : Rel Ca σ μ) {p hh : Nat} (hp : p < 8) (hh2 : hh ≤ 200) : ∃ σ', f_X6_findOnward σ (σ.1 0 13) (σ.1 0 11) (nI p) (nI hh) = some σ' ∧ TBL σ' (Vo μ) (OKo μ p hh) ∧ Rel Ca σ' μ := by
  have hI := h.2.1
  have e13 : σ.1 0 13 = nI (Op μ) := by rw [h.1.2.2.2.2.2.2.2.2.2.2.2.2.2, (Op_ok hI).1]
  have e11 : σ.1 0 11 = μ.1 40 6 := h.1.2.2.2.2.2.2.2.2.2.2.2.1
  have f0 : fr sK2 σ (ppS (ppS σ 36 6 (0 : Int32)) 36 7 (1 : Int32)) := fr_tr (fr_S (by unfold sK2; omega)) (fr_S (by unfold sK2; omega))
  have r0 := r0_s (rel_to0 h) f0 (fr_rf (σ := μ))
  have h7 : (ppS (ppS σ 36 6 (0 : Int32)) 36 7 (1 : Int32)).1 36 7 = 1 := qs_same _ _ _ _
  have h6 : (ppS (ppS σ 36 6 (0 : Int32)) 36 7 (1 : Int32)).1 36 6 = 0 := by rw [qs_ne (by omega), qs_same]
  unfold f_X6_findOnward
  rw [e13, e11]
  by_cases c : p = 0
  · subst c
    rw [if_pos (show nI 0 = (0 : Int32) from rfl)]
    exact k_fO27 (p := 0) r0 (by omega) hh2 h7 h6 (Op_ok hI).2
  · obtain ⟨b, rfl⟩ : ∃ b, p = b + 1 := ⟨p - 1, by omega⟩
    have ho := opx_i (Op μ) (Op_ok hI).2 b (by omega)
    have ea : opA (Op μ) (b + 1) = opx (Op μ) b := by unfold opA; rw [if_neg (by omega), Nat.add_sub_cancel]
    rw [if_neg (show ¬ nI (b + 1) = (0 : Int32) from fun q => by have := (nI_eqI (b := 0) (by omega) (by omega)).mp q; omega), k_bitOf (by omega), Option.bind_some, ho.1, ← ea]
    exact k_fO27 r0 hp hh2 h7 h6 (by rw [ea]; exact ho.2)
/-- the best row of all -/
def bestIn (V : List Nat → Int) (C : List Nat → Prop) (R : List Nat) : Prop := C R ∧ ∀ R', C R' → V R' < V R ∨ (V R' = V R ∧ code8 R ≤ code8 R')
theorem k_bs4 (hT : TBL σ V C) (hC : rOk V C) : ∀ m S n B, S + m = 128 → m < n → B < S → ((σ.2 37 B = NOR ∧ B = 0 ∧ σ.1 38 0 = 0 ∧ ∀ R, C R → S ≤ bset R) ∨ ∃ R, C R ∧ bset R = B ∧ σ.2 37 B = lI (V R) ∧ σ.1 38 B = nI (code8 R) ∧ ∀ R', C R' → bset R' < S → V R' < V R ∨ (V R' = V R ∧ code8 R ≤ code8 R')) → ∃ B', B' < 128 ∧ f_X6_bestSet_4 n σ (nI B) (nI S) = some (nI B', σ) ∧ ((B' = 0 ∧ σ.1 38 0 = 0 ∧ ∀ R, ¬ C R) ∨ ∃ R, bestIn V C R ∧ σ.2 37 B' = lI (V R) ∧ σ.1 38 B' = nI (code8 R)) := by
  intro m
  induction m with
  | zero =>
    intro S n B hS hn hB hinv
    obtain ⟨n, rfl⟩ : ∃ n', n = n' + 1 := ⟨n - 1, by omega⟩
    have : S = 128 := by omega
    subst this
    refine ⟨B, hB, ?_, ?_⟩
    · show f_X6_bestSet_4_B (f_X6_bestSet_4 n) _ _ _ = _
      unfold f_X6_bestSet_4_B
      rw [if_neg (show ¬ nI 128 < (128 : Int32) from q_nlt 128)]
    · rcases hinv with ⟨a1, a2, a3, a4⟩ | ⟨R, r1, r2, r3, r4, r5⟩
      · refine Or.inl ⟨a2, a3, fun R hR => ?_⟩
        have h1 := a4 R hR
        have h2 : bset R < 128 := bset_lt R (hC R hR).2.1
        omega
      · exact Or.inr ⟨R, ⟨r1, fun R' hR' => r5 R' hR' (bset_lt R' (hC R' hR').2.1)⟩, r3, r4⟩
  | succ m ih =>
    intro S n B hS hn hB hinv
    obtain ⟨n, rfl⟩ : ∃ n', n = n' + 1 := ⟨n - 1, by omega⟩
    have i1 : pp_ix (nI S) 128 := q_ix (by omega) (by omega)
    have e0 : f_X6_bestSet_4 (n + 1) σ (nI B) (nI S) = f_X6_bestSet_4_B (f_X6_bestSet_4 n) σ (nI B) (nI S) := rfl
    unfold f_X6_bestSet_4_B f_X6_bestSet_46 at e0
    rw [if_pos (show nI S < (128 : Int32) from nI_lt (b := 128) (by omega) (by omega)), if_pos i1, nI_1] at e0
    simp only [q_cl (k := S) (show S < 2 ^ 31 by omega)] at e0
    rcases hT S (by omega) with ⟨t1, t2, t3⟩ | ⟨Q, q1, q2, q3, q4, q5⟩
    · rw [if_pos (show σ.2 37 S = (-9223372036854775808 : Int64) from t1)] at e0
      rw [e0]
      refine ih (S + 1) n B (by omega) (by omega) (by omega) ?_
      rcases hinv with ⟨a1, a2, a3, a4⟩ | ⟨R, r1, r2, r3, r4, r5⟩
      · refine Or.inl ⟨a1, a2, a3, fun R hR => ?_⟩
        have := a4 R hR
        have := t3 R hR
        omega
      · refine Or.inr ⟨R, r1, r2, r3, r4, fun R' hR' hb => ?_⟩
        have := t3 R' hR'
        exact r5 R' hR' (by omega)
    · obtain ⟨o1, o2, o3, o4⟩ := hC Q q1
      have hcl := code8_31 o1 (fun f hf => (o2 f hf).2)
      rw [q3, q4, if_neg (show ¬ lI (V Q) = (-9223372036854775808 : Int64) from (NOR_lt o3 o4).2)] at e0
      obtain ⟨b, b1, b2, b3⟩ := k_isBetter hT hC (show B < 128 by omega) (show code8 Q < 2 ^ 31 by omega) o3 o4
      rw [b1, Option.bind_some] at e0
      by_cases c : b = 0
      · rw [if_pos c] at e0
        rw [e0]
        refine ih (S + 1) n B (by omega) (by omega) (by omega) ?_
        have hn' : ¬ ∀ R, C R → bset R = B → V R < V Q ∨ (V R = V Q ∧ code8 Q < code8 R) ∨ ∃ R', C R' ∧ bset R' = B ∧ (V R < V R' ∨ (V R = V R' ∧ code8 R' < code8 R)) := fun q => by
          have := b3.mpr q
          rw [c] at this
          exact absurd this (by decide)
        rcases hinv with ⟨a1, a2, a3, a4⟩ | ⟨R, r1, r2, r3, r4, r5⟩
        · exact absurd (fun R hR hb => by have := a4 R hR; omega) hn'
        · refine Or.inr ⟨R, r1, r2, r3, r4, fun R' hR' hb => ?_⟩
          by_cases e : bset R' = S
          · have h5 := q5 R' hR' e
            have key : V Q < V R ∨ (V Q = V R ∧ code8 R ≤ code8 Q) := by
              apply Classical.byContradiction
              intro hh
              apply hn'
              intro R2 hR2 hb2
              have := r5 R2 hR2 (by omega)
              by_cases c5 : V R2 < V R
              · exact Or.inr (Or.inr ⟨R, r1, r2, Or.inl c5⟩)
              · by_cases c6 : code8 R < code8 R2
                · exact Or.inr (Or.inr ⟨R, r1, r2, Or.inr ⟨by omega, c6⟩⟩)
                · by_cases c7 : V R < V Q
                  · exact Or.inl (by omega)
                  · exact Or.inr (Or.inl ⟨by omega, by omega⟩)
            omega
          · exact r5 R' hR' (by omega)
      · have hb1 : b = 1 := by rcases b2 with h | h; exact absurd h c; exact h
        have hall := b3.mp hb1
        rw [if_neg c] at e0
        rw [e0]
        refine ih (S + 1) n S (by omega) (by omega) (by omega) (Or.inr ⟨Q, q1, q2, q3, q4, fun R' hR' hb => ?_⟩)
        by_cases e : bset R' = S
        · exact q5 R' hR' e
        · rcases hinv with ⟨a1, a2, a3, a4⟩ | ⟨R, r1, r2, r3, r4, r5⟩
          · have := a4 R' hR'
            omega
          · have h5 := r5 R' hR' (by omega)
            rcases hall R r1 r2 with q | q | ⟨R2, w1, w2, w3⟩
            · omega
            · omega
            · have := r5 R2 w1 (by omega)
              omega
theorem k_bestSet (hT : TBL σ V C) (hC : rOk V C) : ∃ B', B' < 128 ∧ f_X6_bestSet σ = some (nI B', σ) ∧ ((B' = 0 ∧ σ.1 38 0 = 0 ∧ ∀ R, ¬ C R) ∨ ∃ R, bestIn V C R ∧ σ.2 37 B' = lI (V R) ∧ σ.1 38 B' = nI (code8 R)) := by
  refine k_bs4 hT hC 127 1 100000 0 (by omega) (by omega) (by omega) ?_
  rcases hT 0 (by omega) with ⟨t1, t2, t3⟩ | ⟨Q, q1, q2, q3, q4, q5⟩
  · refine Or.inl ⟨t1, rfl, t2, fun R hR => ?_⟩
    have := t3 R hR
    omega
  · exact Or.inr ⟨Q, q1, q2, q3, q4, fun R' hR' hb => q5 R' hR' (by omega)⟩
end SEARCH
