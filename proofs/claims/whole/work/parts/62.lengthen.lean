/-! the class's search -/
section LENGTHEN
variable {Ca : pp_M → pp_M → Prop} {σ μ ν : pp_M} {V : List Nat → Int} {C : List Nat → Prop}
/-- rows that may be and are within the day -/
def okRw (D : Nat → Nat) (a st : Nat) (hl : Int) (Q : List Nat) : Prop := vR a Q ∧ (hrN D st Q : Int) ≤ hl
theorem hrN_cons {D : Nat → Nat} (hD : ∀ c, c < 8 → triC D c) {s p : Nat} (hs : s < 8) (hp : p < 8) : ∀ (Q : List Nat), (∀ f ∈ Q, f < 8) → hrN D s Q ≤ hrN D s (p :: Q)
  | [], _ => hD p hp s hs 0 (by omega)
  | q :: Q, h => by
    have := hD p hp s hs q (h q (List.mem_cons_self ..))
    show D (8 * s + q) + hrN D q Q ≤ D (8 * s + p) + (D (8 * p + q) + hrN D q Q)
    omega
theorem hrN_suf {D : Nat → Nat} (hD : ∀ c, c < 8 → triC D c) {s : Nat} (hs : s < 8) {R : List Nat} : ∀ (P : List Nat), (∀ f ∈ P ++ R, f < 8) → hrN D s R ≤ hrN D s (P ++ R)
  | [], _ => Nat.le_refl _
  | p :: P, h => by
    have ih := hrN_suf hD hs P (fun f hf => h f (List.mem_cons_of_mem _ hf))
    have := hrN_cons hD hs (h p (List.mem_cons_self ..)) (P ++ R) (fun f hf => h f (List.mem_cons_of_mem _ hf))
    exact Nat.le_trans ih this
theorem suf_cases {R Q : List Nat} (h : R <:+ Q) : Q = R ∨ ∃ f, (f :: R) <:+ Q := by
  obtain ⟨P, rfl⟩ := h
  rcases List.eq_nil_or_concat P with rfl | ⟨P', f, rfl⟩
  · exact Or.inl rfl
  · refine Or.inr ⟨f, P', ?_⟩
    rw [List.concat_eq_append, List.append_assoc]
    rfl
theorem suf_mem {R Q : List Nat} {f : Nat} (h : (f :: R) <:+ Q) : R <:+ Q ∧ f ∈ Q ∧ (Q.Nodup → f ∉ R) := by
  obtain ⟨P, rfl⟩ := h
  refine ⟨⟨P ++ [f], by rw [List.append_assoc]; rfl⟩, List.mem_append_right _ (List.mem_cons_self ..), fun hn hf => ?_⟩
  have := (List.nodup_append.mp hn).2.1
  exact (List.nodup_cons.mp this).1 hf
theorem suf_v {a : Nat} {R Q : List Nat} (h : R <:+ Q) (hv : vR a Q) : vR a R := by
  obtain ⟨P, rfl⟩ := h
  obtain ⟨h1, h2, h3⟩ := hv
  rw [List.length_append] at h1
  exact ⟨by omega, (List.nodup_append.mp h2).2.1, fun f hf => h3 f (List.mem_append_right _ hf)⟩
def hd0 : List Nat → Nat
  | [] => 0
  | f :: _ => f
def hrT (D : Nat → Nat) : List Nat → Nat
  | [] => 0
  | f :: fs => hrN D f fs
theorem hrT_c (D : Nat → Nat) (f : Nat) : ∀ R, hrT D (f :: R) = hrT D R + D (8 * f + hd0 R)
  | [] => (Nat.zero_add _).symm
  | g :: gs => by show D (8 * f + g) + hrN D g gs = hrN D g gs + D (8 * f + g); omega
theorem hrN_T (D : Nat → Nat) (s : Nat) : ∀ R, hrN D s R = D (8 * s + hd0 R) + hrT D R
  | [] => rfl
  | _ :: _ => rfl
theorem hrT_bd {D : Nat → Nat} (hD : nwOk D) : ∀ R : List Nat, (∀ g ∈ R, g < 8) → hrT D R ≤ 1000 * (R.length + 1)
  | [], _ => Nat.zero_le _
  | f :: fs, h => by
    have := hrN_bd hD fs f (h f (List.mem_cons_self ..)) (fun g hg => h g (List.mem_cons_of_mem _ hg))
    show hrN D f fs ≤ 1000 * (fs.length + 1 + 1)
    omega
theorem bit_and0 {a k : Nat} (ha : a < 2 ^ 31) (hk : k < 31) : (nI a &&& nI (2 ^ k) = 0) ↔ a.testBit k = false := by
  have hle : a &&& 2 ^ k ≤ a := Nat.and_le_left
  rw [nI_and, show (0 : Int32) = nI 0 from rfl, nI_eqI (by omega) (by omega)]
  constructor
  · intro h
    have := congrArg (fun n => Nat.testBit n k) h
    simp only [Nat.testBit_and, Nat.zero_testBit, Nat.testBit_two_pow_self, Bool.and_true] at this
    exact this
  · intro h
    apply Nat.eq_of_testBit_eq
    intro i
    rw [Nat.testBit_and, Nat.testBit_two_pow, Nat.zero_testBit]
    by_cases e : k = i
    · subst e; rw [h]; rfl
    · rw [decide_eq_false e, Bool.and_false]
theorem k_bitOf {b : Nat} (hb : b < 7) : f_X6_bitOf σ (nI (b + 1)) = some (nI (2 ^ b), σ) := by
  unfold f_X6_bitOf
  rw [nI_s1, bit_sh (by omega)]
theorem shl8 {f l : Nat} (hf : f ≤ 7) (hl : l ≤ 5) : nI f <<< (((3 : Int32) * nI l) &&& 31) = nI (f * 8 ^ l) := by
  have h8 : (8 : Nat) ^ l = 2 ^ (3 * l) := by rw [Nat.pow_mul]
  have hb : f * 2 ^ (3 * l) < 2 ^ 32 := by
    have h1 : (2 : Nat) ^ (3 * l) ≤ 2 ^ 15 := Nat.pow_le_pow_right (by omega) (by omega)
    have := Nat.mul_le_mul hf h1
    omega
  rw [c3I, pk_mul, pk_shlN _ (3 * l) (sh31 (3 * l) (by omega)) hb, h8]
/-- what judging must do -/
def JOK (μ : pp_M) (wp a st : Nat) (hl : Int32) (V : List Nat → Int) : Prop := ∀ σ C Q, SV σ μ wp a st hl → Q.length ≤ 5 ∧ (∀ f ∈ Q, 1 ≤ f ∧ f ≤ 7) → WR σ μ Q → TBL σ V C → rOk V C → ∃ σ', f_X6_judge σ (nI Q.length) (nI (bset Q)) (nI (code8 Q)) = some σ' ∧ fr (LF Q.length) σ σ' ∧ TBL σ' V (fun R => C R ∨ R = Q)
theorem LF_mono {l l' : Nat} {σ σ' : pp_M} (h : fr (LF l) σ σ') (hl : l' ≤ l) : fr (LF l') σ σ' := fr_mono h (fun t i q => by
  have := Nat.mul_le_mul_right 30 (show l' + 1 ≤ l + 1 by omega)
  unfold LF at q ⊢
  omega)
theorem k_len (hI : Inv μ) {wp a st : Nat} {hl : Int32} (ha : a < 128) (hst : st < 8) (hj : JOK μ wp a st hl V) (hVb : ∀ Q, vR a Q → -10000000000000 ≤ V Q ∧ V Q ≤ 10000000000000) : ∀ d R σ C, 5 - R.length < d → vR a R → SV σ μ wp a st hl → WR σ μ R → TBL σ V C → rOk V C → ∃ σ', f_X6_lengthen d σ (nI R.length) (nI (bset R)) (nI (hd0 R)) (nI (hrT (DW μ) R)) (nI (code8 R)) = some σ' ∧ fr (LF R.length) σ σ' ∧ TBL σ' V (fun Q => C Q ∨ (R <:+ Q ∧ okRw (DW μ) a st hl.toInt Q)) := by
  have hDW := DW_ok hI
  intro d
  induction d with
  | zero => intro R σ C hd; omega
  | succ d ih =>
    intro R σ C hd hv hS hW hT hC
    have h1 := hv.1
    have hmem7 : ∀ f ∈ R, 1 ≤ f ∧ f ≤ 7 := fun f hf => ⟨(hv.2.2 f hf).1, (hv.2.2 f hf).2.1⟩
    have hmem8 : ∀ f ∈ R, f < 8 := fun f hf => by have := hmem7 f hf; omega
    have hhd : hd0 R < 8 := by
      cases R with
      | nil => show 0 < 8; omega
      | cons f fs => exact hmem8 f (List.mem_cons_self ..)
    have hTb := hrT_bd hDW.1 R hmem8
    have hwy := hDW.1.1 (8 * st + hd0 R) (by omega)
    have iS : pp_ix (nI st) 8 := q_ix (by omega) (by omega)
    have iH : pp_ix (nI (hd0 R)) 8 := q_ix (by omega) (by omega)
    have e0 : f_X6_lengthen (d + 1) σ (nI R.length) (nI (bset R)) (nI (hd0 R)) (nI (hrT (DW μ) R)) (nI (code8 R)) = f_X6_lengthen_0 (f_X6_lengthen d) σ (nI R.length) (nI (bset R)) (nI (hd0 R)) (nI (hrT (DW μ) R)) (nI (code8 R)) := rfl
    unfold f_X6_lengthen_0 at e0
    obtain ⟨s0, s1, s2, s3, s4, s5⟩ := hS
    rw [s3, if_pos iS, if_pos iH, s4, q_cl (k := st) (by omega), q_cl (k := hd0 R) (by omega), show st * 8 + hd0 R = 8 * st + hd0 R by omega, s0.2.2.1 _ (by omega), hDW.2.1 _ (by omega), nI_add, ← hrN_T] at e0
    have hhr : hrN (DW μ) st R < 2 ^ 31 := by rw [hrN_T]; omega
    by_cases c0 : hl < nI (hrN (DW μ) st R)
    · rw [if_pos c0] at e0
      refine ⟨σ, e0, fr_rf, TBL_iff hT (fun Q => ⟨fun h => Or.inl h, fun h => ?_⟩)⟩
      rcases h with h | ⟨h, hok⟩
      · exact h
      · exfalso
        rw [q_lt32, nI_toInt hhr] at c0
        obtain ⟨P, rfl⟩ := h
        have := hrN_suf hDW.2.2 hst P (R := R) (fun f hf => by have := hok.1.2.2 f hf; omega)
        have := hok.2
        omega
    · rw [if_neg c0] at e0
      rw [q_lt32, nI_toInt hhr] at c0
      have hokR : okRw (DW μ) a st hl.toInt R := ⟨hv, by omega⟩
      obtain ⟨σ1, j1, j2, j3⟩ := hj σ C R ⟨s0, s1, s2, s3, s4, s5⟩ ⟨h1, hmem7⟩ hW hT hC
      rw [j1, Option.bind_some] at e0
      have S1 : SV σ1 μ wp a st hl := SV_fr ⟨s0, s1, s2, s3, s4, s5⟩ j2
      have W1 := WR_LF hW j2 (Nat.le_refl _)
      -- the farms one after the other
      have loop : ∀ m b n σ1, b + m = 7 → m < n → SV σ1 μ wp a st hl → WR σ1 μ R → TBL σ1 V (fun Q => C Q ∨ Q = R ∨ ∃ f, 1 ≤ f ∧ f ≤ b ∧ (f :: R) <:+ Q ∧ okRw (DW μ) a st hl.toInt Q) → ∃ σ', f_X6_lengthen_36 (f_X6_lengthen d) n σ1 (nI R.length) (nI (bset R)) (nI (hd0 R)) (nI (hrT (DW μ) R)) (nI (code8 R)) (nI (b + 1)) = some σ' ∧ fr (LF R.length) σ1 σ' ∧ TBL σ' V (fun Q => C Q ∨ Q = R ∨ ∃ f, 1 ≤ f ∧ f ≤ 7 ∧ (f :: R) <:+ Q ∧ okRw (DW μ) a st hl.toInt Q) := by
        intro m
        induction m with
        | zero =>
          intro b n σ1 hb hn S1 W1 T1
          obtain ⟨n, rfl⟩ : ∃ n', n = n' + 1 := ⟨n - 1, by omega⟩
          have : b = 7 := by omega
          subst this
          refine ⟨σ1, ?_, fr_rf, T1⟩
          show f_X6_lengthen_36_B (f_X6_lengthen d) (f_X6_lengthen_36 (f_X6_lengthen d) n) _ _ _ _ _ _ _ = _
          unfold f_X6_lengthen_36_B
          rw [if_pos (show (7 : Int32) < nI 8 from nI_lt (a := 7) (by omega) (by omega))]
        | succ m ihm =>
          intro b n σ1 hb hn S1 W1 T1
          obtain ⟨n, rfl⟩ : ∃ n', n = n' + 1 := ⟨n - 1, by omega⟩
          have e1 : f_X6_lengthen_36 (f_X6_lengthen d) (n + 1) σ1 (nI R.length) (nI (bset R)) (nI (hd0 R)) (nI (hrT (DW μ) R)) (nI (code8 R)) (nI (b + 1)) = f_X6_lengthen_36_B (f_X6_lengthen d) (f_X6_lengthen_36 (f_X6_lengthen d) n) σ1 (nI R.length) (nI (bset R)) (nI (hd0 R)) (nI (hrT (DW μ) R)) (nI (code8 R)) (nI (b + 1)) := rfl
          unfold f_X6_lengthen_36_B f_X6_lengthen_125 at e1
          rw [if_neg (show ¬ (7 : Int32) < nI (b + 1) from q_nl (a := 7) (by omega) (by omega))] at e1
          by_cases c5 : R.length < 5
          · rw [if_pos (show nI R.length < (5 : Int32) from nI_lt (b := 5) c5 (by omega)), k_bitOf (show b < 7 by omega), Option.bind_some, nI_1 (b + 1), nI_1 R.length] at e1
            have skip : (¬ (a.testBit b = true ∧ (b + 1) ∉ R)) → f_X6_lengthen_36 (f_X6_lengthen d) (n + 1) σ1 (nI R.length) (nI (bset R)) (nI (hd0 R)) (nI (hrT (DW μ) R)) (nI (code8 R)) (nI (b + 1)) = f_X6_lengthen_36 (f_X6_lengthen d) n σ1 (nI R.length) (nI (bset R)) (nI (hd0 R)) (nI (hrT (DW μ) R)) (nI (code8 R)) (nI (b + 1 + 1)) → ∃ σ', f_X6_lengthen_36 (f_X6_lengthen d) (n + 1) σ1 (nI R.length) (nI (bset R)) (nI (hd0 R)) (nI (hrT (DW μ) R)) (nI (code8 R)) (nI (b + 1)) = some σ' ∧ fr (LF R.length) σ1 σ' ∧ TBL σ' V (fun Q => C Q ∨ Q = R ∨ ∃ f, 1 ≤ f ∧ f ≤ 7 ∧ (f :: R) <:+ Q ∧ okRw (DW μ) a st hl.toInt Q) := fun hno he => by
              rw [he]
              refine ihm (b + 1) n σ1 (by omega) (by omega) S1 W1 (TBL_iff T1 (fun Q => ⟨fun h => ?_, fun h => ?_⟩))
              · rcases h with h | h | ⟨f, f1, f2, f3, f4⟩
                · exact Or.inl h
                · exact Or.inr (Or.inl h)
                · exact Or.inr (Or.inr ⟨f, f1, by omega, f3, f4⟩)
              · rcases h with h | h | ⟨f, f1, f2, f3, f4⟩
                · exact Or.inl h
                · exact Or.inr (Or.inl h)
                · by_cases e : f = b + 1
                  · exfalso
                    subst e
                    obtain ⟨m1, m2, m3⟩ := suf_mem f3
                    have := (f4.1.2.2 _ m2).2.2
                    exact hno ⟨this, m3 f4.1.2.1⟩
                  · exact Or.inr (Or.inr ⟨f, f1, by omega, f3, f4⟩)
            obtain ⟨S10, S11, S12, S13, S14, S15⟩ := S1
            by_cases c6 : a.testBit b = true
            · rw [S12, if_neg (fun q => by have := (bit_and0 (show a < 2 ^ 31 by omega) (show b < 31 by omega)).mp q; rw [c6] at this; cases this)] at e1
              have hbl := bset_lt R hmem7
              have hbb := bset_bit R (b + 1) (by omega) (fun g hg => (hmem7 g hg).1)
              rw [Nat.add_sub_cancel] at hbb
              by_cases c7 : (b + 1) ∈ R
              · rw [if_neg (fun q => by have := (bit_and0 (show bset R < 2 ^ 31 by omega) (show b < 31 by omega)).mp q; rw [hbb.mpr c7] at this; cases this)] at e1
                exact skip (fun q => q.2 c7) e1
              · rw [if_pos ((bit_and0 (show bset R < 2 ^ 31 by omega) (show b < 31 by omega)).mpr (by
                  cases hh : (bset R).testBit b with
                  | true => exact absurd (hbb.mp hh) c7
                  | false => rfl))] at e1
                obtain ⟨σ2, g1, g2, g3⟩ := k_callAt S10.1 hI (f := b + 1) (fs := R) (by omega) (by omega) hmem8 W1
                have f2 : fr (LF R.length) σ1 σ2 := fr_mono g2 (fun t i q => by unfold P23 at q; unfold LF; omega)
                have S2 : SV σ2 μ wp a st hl := SV_fr ⟨S10, S11, S12, S13, S14, S15⟩ f2
                have T2 : TBL σ2 V (fun Q => C Q ∨ Q = R ∨ ∃ f, 1 ≤ f ∧ f ≤ b ∧ (f :: R) <:+ Q ∧ okRw (DW μ) a st hl.toInt Q) := TBL_fr T1 (fun i => ⟨(g2 37 i (by unfold P23; omega)).2, (g2 38 i (by unfold P23; omega)).1⟩)
                have hvN : vR a ((b + 1) :: R) := ⟨by rw [List.length_cons]; omega, List.nodup_cons.mpr ⟨c7, hv.2.1⟩, fun f hf => by
                  rcases List.mem_cons.mp hf with rfl | hf
                  · exact ⟨by omega, by omega, by rw [Nat.add_sub_cancel]; exact c6⟩
                  · exact hv.2.2 f hf⟩
                have C2 : rOk V (fun Q => C Q ∨ Q = R ∨ ∃ f, 1 ≤ f ∧ f ≤ b ∧ (f :: R) <:+ Q ∧ okRw (DW μ) a st hl.toInt Q) := fun Q hQ => by
                  rcases hQ with hQ | rfl | ⟨f, f1, f2, f3, f4⟩
                  · exact hC Q hQ
                  · exact ⟨h1, hmem7, (hVb Q hv).1, (hVb Q hv).2⟩
                  · exact ⟨f4.1.1, fun g hg => ⟨(f4.1.2.2 g hg).1, (f4.1.2.2 g hg).2.1⟩, (hVb Q f4.1).1, (hVb Q f4.1).2⟩
                obtain ⟨σ3, u1, u2, u3⟩ := ih ((b + 1) :: R) σ2 _ (by rw [List.length_cons]; omega) hvN S2 g3 T2 C2
                have iB : pp_ix (nI (b + 1)) 8 := q_ix (by omega) (by omega)
                have ew : σ2.1 8 ((b + 1) * 8 + hd0 R) = nI (DW μ (8 * (b + 1) + hd0 R)) := by rw [show (b + 1) * 8 + hd0 R = 8 * (b + 1) + hd0 R by omega, S2.1.2.2.1 _ (by omega), hDW.2.1 _ (by omega)]
                have hcode : nI (code8 R) + nI (b + 1) <<< (((3 : Int32) * nI R.length) &&& 31) = nI (code8 ((b + 1) :: R)) := by
                  rw [shl8 (by omega) (by omega), nI_add]
                  exact congrArg nI (by show code8 R + (b + 1) * 8 ^ R.length = (b + 1) * 8 ^ R.length + code8 R; omega)
                have hset : nI (bset R) ||| nI (2 ^ b) = nI (bset ((b + 1) :: R)) := by
                  rw [nI_or]
                  exact congrArg nI (by show bset R ||| 2 ^ b = 2 ^ (b + 1 - 1) ||| bset R; rw [Nat.add_sub_cancel, Nat.or_comm])
                rw [g1, Option.bind_some, if_pos iB, if_pos iH, q_cl (k := b + 1) (by omega), q_cl (k := hd0 R) (by omega), ew, nI_add, ← hrT_c, hcode, hset] at e1
                rw [show f_X6_lengthen d σ2 (nI (R.length + 1)) (nI (bset ((b + 1) :: R))) (nI (b + 1)) (nI (hrT (DW μ) ((b + 1) :: R))) (nI (code8 ((b + 1) :: R))) = some σ3 from u1, Option.bind_some] at e1
                have f3 : fr (LF R.length) σ2 σ3 := LF_mono u2 (by rw [List.length_cons]; omega)
                have T3 : TBL σ3 V (fun Q => C Q ∨ Q = R ∨ ∃ f, 1 ≤ f ∧ f ≤ b + 1 ∧ (f :: R) <:+ Q ∧ okRw (DW μ) a st hl.toInt Q) := by
                  refine TBL_iff u3 (fun Q => ⟨fun h => ?_, fun h => ?_⟩)
                  · rcases h with (h | h | ⟨f, f1, f2, f3, f4⟩) | h
                    · exact Or.inl h
                    · exact Or.inr (Or.inl h)
                    · exact Or.inr (Or.inr ⟨f, f1, by omega, f3, f4⟩)
                    · exact Or.inr (Or.inr ⟨b + 1, by omega, Nat.le_refl _, h.1, h.2⟩)
                  · rcases h with h | h | ⟨f, f1, f2, f3, f4⟩
                    · exact Or.inl (Or.inl h)
                    · exact Or.inl (Or.inr (Or.inl h))
                    · by_cases e : f = b + 1
                      · subst e; exact Or.inr ⟨f3, f4⟩
                      · exact Or.inl (Or.inr (Or.inr ⟨f, f1, by omega, f3, f4⟩))
                obtain ⟨σ', v1, v2, v3⟩ := ihm (b + 1) n σ3 (by omega) (by omega) (SV_fr S2 f3) (WR_LF (WR_LF W1 f2 (Nat.le_refl _)) f3 (Nat.le_refl _)) T3
                exact ⟨σ', e1.trans v1, fr_tr f2 (fr_tr f3 v2), v3⟩
            · have c6' : a.testBit b = false := by
                cases hh : a.testBit b with
                | true => exact absurd hh c6
                | false => rfl
              rw [S12, if_pos ((bit_and0 (show a < 2 ^ 31 by omega) (show b < 31 by omega)).mpr c6')] at e1
              exact skip (fun q => c6 q.1) e1
          · rw [if_neg (show ¬ nI R.length < (5 : Int32) from q_nl (b := 5) (by omega) (by omega))] at e1
            refine ⟨σ1, e1, fr_rf, TBL_iff T1 (fun Q => ⟨fun h => ?_, fun h => ?_⟩)⟩
            · rcases h with h | h | ⟨f, f1, f2, f3, f4⟩
              · exact Or.inl h
              · exact Or.inr (Or.inl h)
              · exact Or.inr (Or.inr ⟨f, f1, by omega, f3, f4⟩)
            · rcases h with h | h | ⟨f, f1, f2, f3, f4⟩
              · exact Or.inl h
              · exact Or.inr (Or.inl h)
              · exfalso
                have := (suf_v f3 f4.1).1
                rw [List.length_cons] at this
                omega
      have T0 : TBL σ1 V (fun Q => C Q ∨ Q = R ∨ ∃ f, 1 ≤ f ∧ f ≤ 0 ∧ (f :: R) <:+ Q ∧ okRw (DW μ) a st hl.toInt Q) := by
        refine TBL_iff j3 (fun Q => ⟨fun h => ?_, fun h => ?_⟩)
        · rcases h with h | h
          · exact Or.inl h
          · exact Or.inr (Or.inl h)
        · rcases h with h | h | ⟨f, f1, f2, f3, f4⟩
          · exact Or.inl h
          · exact Or.inr h
          · omega
      obtain ⟨σ', l1, l2, l3⟩ := loop 7 0 100000 σ1 (by omega) (by omega) S1 W1 T0
      refine ⟨σ', e0.trans l1, fr_tr j2 l2, TBL_iff l3 (fun Q => ⟨fun h => ?_, fun h => ?_⟩)⟩
      · rcases h with h | rfl | ⟨f, f1, f2, f3, f4⟩
        · exact Or.inl h
        · exact Or.inr ⟨List.suffix_refl _, hokR⟩
        · exact Or.inr ⟨(suf_mem f3).1, f4⟩
      · rcases h with h | ⟨h, hok⟩
        · exact Or.inl h
        · rcases suf_cases h with rfl | ⟨f, hf⟩
          · exact Or.inr (Or.inl rfl)
          · have := hok.1.2.2 f (suf_mem hf).2.1
            exact Or.inr (Or.inr ⟨f, this.1, this.2.1, hf, hok⟩)
end LENGTHEN
