/-! judging a row -/
section JUDGE
variable {Ca : pp_M → pp_M → Prop} {σ μ ν : pp_M} {V : List Nat → Int} {C : List Nat → Prop}
def sK2 (t i : Nat) : Prop := sK t i ∨ t = 36 ∨ t = 37 ∨ t = 38
theorem base_s (h : Base σ μ) {σ' μ' : pp_M} (h1 : fr sK2 σ σ') (h2 : fr sM μ μ') : Base σ' μ' := by
  have k : ∀ t i, ¬ sK2 t i → σ'.1 t i = σ.1 t i := fun t i q => (h1 t i q).1
  have m : ∀ t i, ¬ sM t i → μ'.1 t i = μ.1 t i := fun t i q => (h2 t i q).1
  unfold sK2 sK at k
  unfold sM at m
  obtain ⟨b1, b2, b3, b4, b5, ⟨b6, b6'⟩, b7, b8, b9, ⟨b10, b10'⟩, b11, b12, b12', b12''⟩ := h
  refine ⟨?_, ?_, ?_, ?_, ?_, ⟨?_, ?_⟩, ?_, ?_, ?_, ⟨?_, ?_⟩, ?_, ?_, ?_, ?_⟩
  · intro t ht w hw; rw [k 3 (t * 6 + w) (by omega), m (41 + w) (t) (by omega)]; exact b1 t ht w hw
  · intro t ht l hl; rw [k 3 (t * 6 + (3 + l)) (by omega), m (44) (3 * t + l) (by omega)]; exact b2 t ht l hl
  · intro i hi; rw [k 6 (i) (by omega), m (45) (i) (by omega)]; exact b3 i hi
  · intro i hi; rw [k 11 (i) (by omega), m (47) (i) (by omega)]; exact b4 i hi
  · intro t ht; rw [k 12 (t) (by omega), m (48) (t) (by omega)]; exact b5 t ht
  · rw [k 13 (5) (by omega), m (40) (11) (by omega)]; exact b6
  · intro i hi; rw [k 14 (i) (by omega), m (49) (i) (by omega)]; exact b6' i hi
  · intro s hs; rw [k 19 (s) (by omega), k 20 (s) (by omega), m (66) (s) (by omega), m (67) (s) (by omega), m (68) (s) (by omega)]; exact b7 s hs
  · intro i hi; rw [k 18 (i) (by omega), m (69) (i) (by omega)]; exact b8 i hi
  · rw [k 16 (3) (by omega), m (40) (47) (by omega)]; exact b9
  · rw [k 0 (10) (by omega), m (40) (19) (by omega)]; exact b10
  · intro i hi; rw [k 34 (i) (by omega), m (53) (i) (by omega)]; exact b10' i hi
  · intro t ht; rw [k 35 (t) (by omega), m (54) (t) (by omega)]; exact b11 t ht
  · rw [k 0 (11) (by omega), m (40) (6) (by omega)]; exact b12
  · rw [k 0 (12) (by omega), m (40) (7) (by omega)]; exact b12'
  · rw [k 0 (13) (by omega), m (40) (8) (by omega)]; exact b12''
theorem r0_s (h : Rel0 σ μ) {σ' μ' : pp_M} (h1 : fr sK2 σ σ') (h2 : fr sM μ μ') : Rel0 σ' μ' := ⟨base_s h.1 h1 h2, inv_fr h.2.1 h2, fun i hi => by
  rw [(h1 8 i (by unfold sK2 sK; omega)).1, show μ'.1 45 = μ.1 45 from funext fun i => (h2 45 i (by unfold sM; omega)).1]
  exact h.2.2.1 i hi, fun i ha hb => by rw [(h1 30 i (by unfold sK2 sK; omega)).2]; exact h.2.2.2 i ha hb⟩
/-- what a search behind length l writes -/
def LF (l : Nat) (t i : Nat) : Prop := t = 37 ∨ t = 38 ∨ t = 27 ∨ t = 28 ∨ (t = 30 ∧ i < 606) ∨ (t = 23 ∧ (l + 1) * 30 ≤ i)
theorem LF_sK2 {l : Nat} {σ σ' : pp_M} (h : fr (LF l) σ σ') : fr sK2 σ σ' := fr_mono h (fun t i q => by unfold LF at q; unfold sK2 sK; omega)
/-- the search's own settings -/
def SV (σ μ : pp_M) (wp a st : Nat) (hl : Int32) : Prop := Rel0 σ μ ∧ σ.1 36 7 = nI wp ∧ σ.1 36 8 = nI a ∧ σ.1 36 9 = nI st ∧ σ.1 36 10 = hl ∧ (wp = 0 → σ.1 36 11 = nI (Lm μ))
theorem SV_fr {l wp a st : Nat} {hl : Int32} {σ σ' : pp_M} (h : SV σ μ wp a st hl) (hf : fr (LF l) σ σ') : SV σ' μ wp a st hl := by
  obtain ⟨h0, h1, h2, h3, h4, h5⟩ := h
  refine ⟨r0_s h0 (LF_sK2 hf) fr_rf, ?_, ?_, ?_, ?_, fun q => ?_⟩
  · rw [(hf 36 7 (by unfold LF; omega)).1]; exact h1
  · rw [(hf 36 8 (by unfold LF; omega)).1]; exact h2
  · rw [(hf 36 9 (by unfold LF; omega)).1]; exact h3
  · rw [(hf 36 10 (by unfold LF; omega)).1]; exact h4
  · rw [(hf 36 11 (by unfold LF; omega)).1]; exact h5 q
theorem WR_LF {l : Nat} {σ σ' : pp_M} {fs : List Nat} (h : WR σ μ fs) (hf : fr (LF l) σ σ') (hl : fs.length ≤ l) : WR σ' μ fs := fun t ht k hk => by
  have := Nat.mul_le_mul_right 30 hl
  rw [(hf 23 _ (by unfold LF; omega)).2]
  exact h t ht k hk
/-- what a row brings with its best pack, in the class's units -/
def Vr (μ : pp_M) (R : List Nat) : Int := dM (GS μ R) (Wt μ) (pkS μ R) 6 (Lm μ)
def pkLs (μ : pp_M) (R : List Nat) : List Nat := (List.range 6).map (pkS μ R)
theorem pkLs_ok (μ : pp_M) (R : List Nat) : (pkLs μ R).length = 6 ∧ ∀ i, i < 6 → (pkLs μ R).getD i 0 = pkS μ R i := by
  refine ⟨by unfold pkLs; rw [List.length_map, List.length_range], fun i hi => ?_⟩
  rw [List.getD_eq_getElem?_getD]
  unfold pkLs
  rw [List.getElem?_map, List.getElem?_range (by omega)]
  rfl
theorem pkS_le (μ : pp_M) (R : List Nat) (t : Nat) : pkS μ R t ≤ 4 := by
  have := (pkU_le (GS μ R t) 5).2 (by omega)
  unfold pkS
  omega
theorem pg_peak (μ : pp_M) (R : List Nat) : ∀ (p : List Nat) (t : Nat), t + p.length = 6 → pkF 6 t p → pg (GS μ R) t p ≤ pg (GS μ R) t ((List.range' t p.length).map (pkS μ R))
  | [], _, _, _ => Int.le_refl _
  | k :: p, t, ht, h => by
    rw [List.length_cons] at ht
    have ih := pg_peak μ R p (t + 1) (by omega) h.2.2
    have hk := pkU_max (GS μ R t) 5 k (by have := h.1; omega)
    show GS μ R t k + pg (GS μ R) (t + 1) p ≤ GS μ R t (pkS μ R t) + pg (GS μ R) (t + 1) ((List.range' (t + 1) p.length).map (pkS μ R))
    have hk' : GS μ R t k ≤ GS μ R t (pkS μ R t) := hk
    omega
theorem pkLs_r (μ : pp_M) (R : List Nat) : pkLs μ R = (List.range' 0 6).map (pkS μ R) := rfl
theorem pkF_pk (μ : pp_M) (R : List Nat) : pkF 6 0 (pkLs μ R) := by
  refine ⟨pkS_le μ R 0, fun e => (by omega), pkS_le μ R 1, fun e => (by omega), pkS_le μ R 2, fun e => (by omega), pkS_le μ R 3, fun e => (by omega), pkS_le μ R 4, fun e => (by omega), pkS_le μ R 5, fun e => (by omega), trivial⟩
theorem Vr_peak (hI : Inv μ) (R : List Nat) : Vr μ R ≤ pg (GS μ R) 0 (pkLs μ R) ∧ (pw (Wt μ) 0 (pkLs μ R) ≤ Lm μ → Vr μ R = pg (GS μ R) 0 (pkLs μ R)) := by
  have ho := pkOk_S hI R
  obtain ⟨p, p1, p2, p3, p4⟩ := dM_ex ho 6 0 (Lm μ) rfl
  have u := pg_peak μ R p 0 (by omega) p2
  rw [p1] at u
  have u' : pg (GS μ R) 0 p ≤ pg (GS μ R) 0 (pkLs μ R) := u
  have e : Vr μ R = pg (GS μ R) 0 p := p4.symm
  refine ⟨by omega, fun hw => ?_⟩
  have := dM_ub ho (pkLs μ R) 0 (Lm μ) (by rw [(pkLs_ok μ R).1]) (pkF_pk μ R) hw
  rw [(pkLs_ok μ R).1] at this
  have : pg (GS μ R) 0 (pkLs μ R) ≤ Vr μ R := this
  omega
theorem pw_sN {W : Nat → Nat} (μ : pp_M) (R : List Nat) : pw W 0 (pkLs μ R) = sN (pkS μ R) W 6 := by
  show pkS μ R 0 * W 0 + (pkS μ R 1 * W 1 + (pkS μ R 2 * W 2 + (pkS μ R 3 * W 3 + (pkS μ R 4 * W 4 + (pkS μ R 5 * W 5 + 0))))) = 0 + pkS μ R 0 * W 0 + pkS μ R 1 * W 1 + pkS μ R 2 * W 2 + pkS μ R 3 * W 3 + pkS μ R 4 * W 4 + pkS μ R 5 * W 5
  omega
theorem Vr_bd (hI : Inv μ) {R : List Nat} (hr : R.length ≤ 7) (ha : ∀ g ∈ R, g < 8) : -6000000000000 ≤ Vr μ R ∧ Vr μ R ≤ 6000000000000 := by
  obtain ⟨p, p1, p2, p3, p4⟩ := dM_ex (pkOk_S hI R) 6 0 (Lm μ) rfl
  have h := pgL_bd (G := GS μ R) (fun t ht k hk => GS_bd hI hr ha ht hk) p 0 (by omega) (fun i hi => pkF_getD 6 p 0 i p2)
  rw [p1] at h
  have e : Vr μ R = pg (GS μ R) 0 p := p4.symm
  rw [e]
  exact h
theorem k_judgeR (hI : Inv μ) {a st : Nat} {hl : Int32} (hS : SV σ μ 0 a st hl) {Q : List Nat} (hQ : Q.length ≤ 5 ∧ ∀ f ∈ Q, 1 ≤ f ∧ f ≤ 7) (hW : WR σ μ Q) (hT : TBL σ (Vr μ) C) (hC : rOk (Vr μ) C) : ∃ σ', f_X6_judge σ (nI Q.length) (nI (bset Q)) (nI (code8 Q)) = some σ' ∧ fr (LF Q.length) σ σ' ∧ TBL σ' (Vr μ) (fun R => C R ∨ R = Q) := by
  obtain ⟨h0, h1, h2, h3, h4, h5⟩ := hS
  have ha : ∀ g ∈ Q, g < 8 := fun g hg => by have := hQ.2 g hg; omega
  have hbs : bset Q < 128 := bset_lt Q hQ.2
  have hcl := code8_31 hQ.1 (fun f hf => (hQ.2 f hf).2)
  obtain ⟨σ1, g1, g2, g3⟩ := k_weighGains h0.1 hI (show Q.length ≤ 7 by omega) ha hW
  have f1 : fr (LF Q.length) σ σ1 := fr_mono g2 (fun t i q => by unfold P27 at q; unfold LF; omega)
  have T1 : TBL σ1 (Vr μ) C := TBL_fr hT (fun i => ⟨(g2 37 i (by unfold P27; omega)).2, (g2 38 i (by unfold P27; omega)).1⟩)
  have gP := k_gainOf g3 (tk := 28) (o := 0) (nn := 6) (q := pkLs μ Q) (by omega) (by omega) (pkLs_ok μ Q).1 (fun i hi => by
    rw [Nat.zero_add, (pkLs_ok μ Q).2 i hi]
    exact ⟨(g3.2 i hi).1, pkS_le μ Q i⟩)
  have pkb := pgL_bd (G := GS μ Q) (fun t ht k hk => GS_bd hI (show Q.length ≤ 7 by omega) ha ht hk) (pkLs μ Q) 0 (by rw [(pkLs_ok μ Q).1]) (fun i hi => pkF_getD 6 _ 0 i (pkF_pk μ Q))
  rw [(pkLs_ok μ Q).1] at pkb
  have pkb' : -6000000000000 ≤ pg (GS μ Q) 0 (pkLs μ Q) ∧ pg (GS μ Q) 0 (pkLs μ Q) ≤ 6000000000000 := pkb
  have Vb := Vr_bd hI (R := Q) (by omega) ha
  have Vp := Vr_peak hI Q
  have hLm := Lm_ok hI
  have i1 : pp_ix (nI Q.length) 8 := q_ix (by omega) (by omega)
  obtain ⟨b, b1, b2, b3⟩ := k_isBetter T1 hC hbs (show code8 Q < 2 ^ 31 by omega) (z := pg (GS μ Q) 0 (pkLs μ Q)) (by omega) (by omega)
  have s36 : σ1.1 36 11 = nI (Lm μ) := by rw [(g2 36 11 (by unfold P27; omega)).1]; exact h5 rfl
  have hQ4 : Q.length ≤ 5 ∧ (∀ f ∈ Q, 1 ≤ f ∧ f ≤ 7) ∧ -10000000000000 ≤ Vr μ Q ∧ Vr μ Q ≤ 10000000000000 := ⟨hQ.1, hQ.2, by omega, by omega⟩
  unfold f_X6_judge f_X5_peakGain
  rw [if_pos i1, h1, if_pos (show nI 0 = (0 : Int32) from rfl), q_cl (k := Q.length) (by omega), g1, Option.bind_some, gP, Option.bind_some, Option.bind_some, b1, Option.bind_some]
  by_cases c : b = 0
  · rw [if_pos c]
    refine ⟨σ1, rfl, f1, ?_⟩
    have hn : ¬ ∀ R, C R → bset R = bset Q → Vr μ R < pg (GS μ Q) 0 (pkLs μ Q) ∨ (Vr μ R = pg (GS μ Q) 0 (pkLs μ Q) ∧ code8 Q < code8 R) ∨ ∃ R', C R' ∧ bset R' = bset Q ∧ (Vr μ R < Vr μ R' ∨ (Vr μ R = Vr μ R' ∧ code8 R' < code8 R)) := fun q => by
      have := b3.mpr q
      rw [c] at this
      exact absurd this (by decide)
    rcases T1 (bset Q) hbs with ⟨t1, t2, t3⟩ | ⟨R, r1, r2, r3, r4, r5⟩
    · exact absurd (fun R hR hb => absurd hb (t3 R hR)) hn
    · refine TBL_skip T1 ⟨R, r1, r2, ?_⟩
      have v1 := Vp.1
      apply Classical.byContradiction
      intro hh
      apply hn
      intro R' hR' hb
      have := r5 R' hR' hb
      by_cases c5 : Vr μ R' < Vr μ R
      · exact Or.inr (Or.inr ⟨R, r1, r2, Or.inl c5⟩)
      · by_cases c6 : code8 R < code8 R'
        · exact Or.inr (Or.inr ⟨R, r1, r2, Or.inr ⟨by omega, c6⟩⟩)
        · by_cases c7 : Vr μ R < pg (GS μ Q) 0 (pkLs μ Q)
          · exact Or.inl (by omega)
          · exact Or.inr (Or.inl ⟨by omega, by omega⟩)
  · rw [if_neg c]
    have hw := k_weightOf (σ := σ1) 28 0 6 (by omega) (by omega)
    rw [wS_nI (a := pkS μ Q) (b := Wt μ) 6 (fun i hi => ⟨by rw [Nat.zero_add]; exact (g3.2 i hi).1, (g3.2 i hi).2.2.1⟩)] at hw
    have hpw := pw_sN (W := Wt μ) μ Q
    have wbd : sN (pkS μ Q) (Wt μ) 6 ≤ 480 := by
      have b : ∀ i, i < 6 → pkS μ Q i * Wt μ i ≤ 80 := fun i hi => by
        have := Nat.mul_le_mul (pkS_le μ Q i) (Wt_ok hI hi).2.2
        omega
      have q0 := b 0 (by omega)
      have q1 := b 1 (by omega)
      have q2 := b 2 (by omega)
      have q3 := b 3 (by omega)
      have q4 := b 4 (by omega)
      have q5 := b 5 (by omega)
      show 0 + pkS μ Q 0 * Wt μ 0 + pkS μ Q 1 * Wt μ 1 + pkS μ Q 2 * Wt μ 2 + pkS μ Q 3 * Wt μ 3 + pkS μ Q 4 * Wt μ 4 + pkS μ Q 5 * Wt μ 5 ≤ 480
      omega
    unfold f_X5_peaksFit f_X6_judge_94
    rw [s36, hw, Option.bind_some]
    by_cases c2 : Lm μ < sN (pkS μ Q) (Wt μ) 6
    · rw [if_pos (nI_lt c2 (by omega)), Option.bind_some, if_pos rfl, s36]
      obtain ⟨σ2, e1, e2, e3⟩ := k_mostGain g3 (fun i ha hb => by rw [(g2 30 i (by unfold P27; omega)).2]; exact h0.2.2.2 i ha hb) (L := Lm μ) (bt := 6) (wb := -1) (tp := pkS μ Q) (fun t ht => ⟨pkS_le μ Q t, GS_0 μ Q t⟩) hLm.2.2 wb_m1 (fun t ht => by rw [if_neg (by omega)])
      have T2 : TBL σ2 (Vr μ) C := TBL_fr T1 (fun i => ⟨(e2 37 i (by unfold P30; omega)).2, (e2 38 i (by unfold P30; omega)).1⟩)
      obtain ⟨σ3, u1, u2, u3⟩ := k_keep T2 hC hQ4
      rw [show f_X5_mostGain σ1 (nI (Lm μ)) (-1) = some (lI (Vr μ Q), σ2) from e1, Option.bind_some, u1, Option.bind_some]
      exact ⟨σ3, rfl, fr_tr f1 (fr_tr (fr_mono e2 (fun t i q => by unfold P30 at q; unfold LF; omega)) (fr_mono u2 (fun t i q => by unfold P37 at q; unfold LF; omega))), u3⟩
    · rw [if_neg (q_nl (by omega) (by omega)), Option.bind_some, if_neg (show ¬ (1 : Int32) = 0 by decide), ← Vp.2 (by omega)]
      obtain ⟨σ3, u1, u2, u3⟩ := k_keep T1 hC hQ4
      rw [u1, Option.bind_some]
      exact ⟨σ3, rfl, fr_tr f1 (fr_mono u2 (fun t i q => by unfold P37 at q; unfold LF; omega)), u3⟩
/-- what the pack is worth along a row, in the class's units -/
def wS7 (μ : pp_M) (R : List Nat) (t k : Nat) : Int := wv μ t R k * 16 ^ (7 - R.length)
def Vo (μ : pp_M) (R : List Nat) : Int := pg (wS7 μ R) 0 (pkL μ)
theorem Vo_bd (hI : Inv μ) {R : List Nat} (hr : R.length ≤ 7) (ha : ∀ g ∈ R, g < 8) : -6000000000000 ≤ Vo μ R ∧ Vo μ R ≤ 6000000000000 := by
  have h := pgL_bd (G := wS7 μ R) (fun t ht k hk => by have := wv_rg hI ht hk hr ha; unfold wS7; omega) (pkL μ) 0 (by rw [(pkL_ok hI).1]) (fun i hi => ((pkL_ok hI).2 i (by rw [(pkL_ok hI).1] at hi; exact hi)).2)
  rw [(pkL_ok hI).1] at h
  exact h
theorem k_vP5 {R : List Nat} (hW : WR σ μ R) : ∀ (q : List Nat) (t n : Nat) (acc : Int), t + q.length = 6 → q.length < n → (∀ i, i < q.length → σ.1 35 (t + i) = nI (q.getD i 0) ∧ q.getD i 0 ≤ 4) → f_X6_valueOfPack_5 n σ 23 (R.length * 30) 30 (lI acc) (nI t) = some (lI (acc + pg (wS7 μ R) t q), σ) := by
  intro q
  induction q with
  | nil =>
    intro t n acc ht hn' hq
    rw [List.length_nil] at ht hn'
    obtain ⟨n, rfl⟩ : ∃ n', n = n' + 1 := ⟨n - 1, by omega⟩
    have : t = 6 := by omega
    subst this
    show f_X6_valueOfPack_5_B (f_X6_valueOfPack_5 n) _ _ _ _ _ _ = _
    unfold f_X6_valueOfPack_5_B pg
    rw [if_neg (show ¬ nI 6 < (6 : Int32) from q_nlt 6), Int.add_zero]
  | cons k q ih =>
    intro t n acc ht hn' hq
    rw [List.length_cons] at ht hn'
    obtain ⟨n, rfl⟩ : ∃ n', n = n' + 1 := ⟨n - 1, by omega⟩
    have h0 := hq 0 (by rw [List.length_cons]; omega)
    rw [Nat.add_zero] at h0
    have e0 : (k :: q).getD 0 0 = k := rfl
    rw [e0] at h0
    have i1 : pp_ix (nI t) 6 := q_ix (by omega) (by omega)
    have i2 : pp_ix (nI (t * 5 + k)) 30 := q_ix (by omega) (by omega)
    show f_X6_valueOfPack_5_B (f_X6_valueOfPack_5 n) _ _ _ _ _ _ = _
    unfold f_X6_valueOfPack_5_B
    rw [if_pos (show nI t < (6 : Int32) from nI_lt (b := 6) (by omega) (by omega)), if_pos i1, q_cl (k := t) (by omega), h0.1, c5I, pk_mul, nI_add, if_pos i2, q_cl (k := t * 5 + k) (by omega), hW t (by omega) k (by omega), lI_add, nI_1, show wv μ t R k * 16 ^ (7 - R.length) = wS7 μ R t k from rfl]
    rw [ih (t + 1) n (acc + wS7 μ R t k) (by omega) (by omega) (fun i hi => by
      have := hq (i + 1) (by rw [List.length_cons]; omega)
      rw [show t + (i + 1) = t + 1 + i by omega] at this
      exact this)]
    show some (lI (acc + wS7 μ R t k + pg (wS7 μ R) (t + 1) q), σ) = some (lI (acc + (wS7 μ R t k + pg (wS7 μ R) (t + 1) q)), σ)
    rw [Int.add_assoc]
theorem k_judgeO (hI : Inv μ) {a st : Nat} {hl : Int32} (hS : SV σ μ 1 a st hl) {Q : List Nat} (hQ : Q.length ≤ 5 ∧ ∀ f ∈ Q, 1 ≤ f ∧ f ≤ 7) (hW : WR σ μ Q) (hT : TBL σ (Vo μ) C) (hC : rOk (Vo μ) C) : ∃ σ', f_X6_judge σ (nI Q.length) (nI (bset Q)) (nI (code8 Q)) = some σ' ∧ fr (LF Q.length) σ σ' ∧ TBL σ' (Vo μ) (fun R => C R ∨ R = Q) := by
  obtain ⟨h0, h1, h2, h3, h4, h5⟩ := hS
  have ha : ∀ g ∈ Q, g < 8 := fun g hg => by have := hQ.2 g hg; omega
  have Vb := Vo_bd hI (R := Q) (by omega) ha
  have i1 : pp_ix (nI Q.length) 8 := q_ix (by omega) (by omega)
  have hv := k_vP5 hW (pkL μ) 0 100000 0 (by rw [(pkL_ok hI).1]) (by rw [(pkL_ok hI).1]; omega) (fun i hi => by
    have hi6 : i < 6 := by rw [(pkL_ok hI).1] at hi; exact hi
    rw [Nat.zero_add, h0.1.2.2.2.2.2.2.2.2.2.2.1 i hi6]
    exact (pkL_ok hI).2 i hi6)
  rw [Int.zero_add] at hv
  obtain ⟨σ3, u1, u2, u3⟩ := k_keep hT hC (Q := Q) ⟨hQ.1, hQ.2, by omega, by omega⟩
  unfold f_X6_judge f_X6_valueOfPack
  rw [if_pos i1, h1, if_neg (show ¬ nI 1 = (0 : Int32) by decide), q_cl (k := Q.length) (by omega), show f_X6_valueOfPack_5 100000 σ 23 (Q.length * 30) 30 0 0 = _ from hv, Option.bind_some, show lI (pg (wS7 μ Q) 0 (pkL μ)) = lI (Vo μ Q) from rfl, u1, Option.bind_some]
  exact ⟨σ3, rfl, fr_mono u2 (fun t i q => by unfold P37 at q; unfold LF; omega), u3⟩
end JUDGE
