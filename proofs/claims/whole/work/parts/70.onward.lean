/-! onward from a place -/
section ONWARD
variable {σ μ ν : pp_M}
def dq (A : List Nat → Prop) (n c : Nat) (ds : List Nat) : Prop := A ds ∧ (ds.length < n ∨ (ds.length = n ∧ pc ds < c))
section DQ
variable {A : List Nat → Prop}
theorem dq_0 : dq A 0 0 = fun _ => False := funext fun ds => propext ⟨fun h => by
  rcases h.2 with q | q
  · exact absurd q (Nat.not_lt_zero _)
  · exact absurd q.2 (Nat.not_lt_zero _), fun h => h.elim⟩
theorem dq_end (hA : ∀ ds, A ds → vD (fL (Op μ)).length ds) {n : Nat} (hM : (fL (Op μ)).length ≤ 5) : dq A n (5 ^ n) = dq A (n + 1) 0 := funext fun ds => propext ⟨fun h => ⟨h.1, by
  rcases h.2 with q | q
  · exact Or.inl (by omega)
  · exact Or.inl (by omega)⟩, fun h => ⟨h.1, by
  have h5 := dn_lt5 (n := 0) (c := 0) hM (hA ds h.1)
  have hp := pc_lt 6 ds 0 h5.2
  rcases h.2 with q | q
  · by_cases e : ds.length = n
    · exact Or.inr ⟨e, by rw [← e]; exact hp⟩
    · exact Or.inl (by omega)
  · exact absurd q.2 (Nat.not_lt_zero _)⟩⟩
theorem dq_all (hA : ∀ ds, A ds → vD (fL (Op μ)).length ds) : dq A ((fL (Op μ)).length + 1) 0 = A := funext fun ds => propext ⟨fun h => h.1, fun h => ⟨h, Or.inl (by have := pigeon _ _ (hA ds h); omega)⟩⟩
theorem dq_skip (hA : ∀ ds, A ds → vD (fL (Op μ)).length ds) {n c : Nat} (hM : (fL (Op μ)).length ≤ 5) (h : ¬ A (dgs n c)) : dq A n (c + 1) = dq A n c := funext fun ds => propext ⟨fun q => ⟨q.1, by
  rcases q.2 with r | r
  · exact Or.inl r
  · by_cases e : pc ds = c
    · have := dn_eq hM (hA ds q.1) r.1 e
      rw [this] at q
      exact absurd q.1 h
    · exact Or.inr ⟨r.1, by omega⟩⟩, fun q => ⟨q.1, by
  rcases q.2 with r | r
  · exact Or.inl r
  · exact Or.inr ⟨r.1, by omega⟩⟩⟩
theorem dq_add (hA : ∀ ds, A ds → vD (fL (Op μ)).length ds) {n c : Nat} (hM : (fL (Op μ)).length ≤ 5) (hc : c < 5 ^ n) (h : A (dgs n c)) : dq A n (c + 1) = fun ds => dq A n c ds ∨ ds = dgs n c := funext fun ds => propext ⟨fun q => by
  rcases q.2 with r | r
  · exact Or.inl ⟨q.1, Or.inl r⟩
  · by_cases e : pc ds = c
    · exact Or.inr (dn_eq hM (hA ds q.1) r.1 e)
    · exact Or.inl ⟨q.1, Or.inr ⟨r.1, by omega⟩⟩, fun q => by
  rcases q with q | q
  · refine ⟨q.1, ?_⟩
    rcases q.2 with r | r
    · exact Or.inl r
    · exact Or.inr ⟨r.1, by omega⟩
  · rw [q]
    exact ⟨h, Or.inr ⟨dgs_len _ _, by rw [pc_dgs n c hc]; omega⟩⟩⟩
theorem dq_ord (hA : ∀ ds, A ds → vD (fL (Op μ)).length ds) {n c : Nat} (hM : (fL (Op μ)).length ≤ 5) (hc : c < 5 ^ n) (h : A (dgs n c)) {ds : List Nat} (q : dq A n c ds) : code8 (rowD (Op μ) ds) ≤ code8 (rowD (Op μ) (dgs n c)) := by
  have hv := hA ds q.1
  have hw := hA _ h
  rcases q.2 with r | r
  · refine ord_len _ _ (fun f hf => ((rowD_v hM hv).2.2 f hf).2.1) (fun f hf => ((rowD_v hM hw).2.2 f hf).1) ?_
    rw [rowD_len, rowD_len, dgs_len]
    exact r
  · exact ord_lex hM ds (dgs n c) (by rw [dgs_len]; exact r.1) (dn_lt5 (n := 0) (c := 0) hM hv).1 hv.2 hw.2 (by rw [pc_dgs n c hc]; exact r.2)
end DQ
/-- the rows onward -/
def AO (μ : pp_M) (p h : Nat) (ds : List Nat) : Prop := vD (fL (Op μ)).length ds ∧ p ∉ rowD (Op μ) ds ∧ ((h + hrN (DW μ) p (rowD (Op μ) ds) : Nat) : Int) ≤ (μ.1 40 6).toInt
theorem opA_v {o p : Nat} (ho : o < 128) (hp : p < 8) {R : List Nat} : vR (opA o p) R ↔ vR o R ∧ p ∉ R := by
  by_cases c : p = 0
  · have e : opA o p = o := if_pos c
    rw [e]
    exact ⟨fun h => ⟨h, fun q => by have := (h.2.2 p q).1; omega⟩, fun h => h.1⟩
  · have e : opA o p = opx o (p - 1) := if_neg c
    rw [e]
    constructor
    · intro h
      refine ⟨⟨h.1, h.2.1, fun f hf => ?_⟩, fun q => ?_⟩
      · have := h.2.2 f hf
        have hb := opx_b o ho (p - 1) (by omega) (f - 1) (by omega)
        rw [this.2.2] at hb
        refine ⟨this.1, this.2.1, ?_⟩
        exact ((Bool.and_eq_true _ _).mp hb.symm).1
      · have := h.2.2 p q
        have hb := opx_b o ho (p - 1) (by omega) (p - 1) (by omega)
        rw [this.2.2] at hb
        have := ((Bool.and_eq_true _ _).mp hb.symm).2
        simp at this
    · intro h
      refine ⟨h.1.1, h.1.2.1, fun f hf => ?_⟩
      have := h.1.2.2 f hf
      have hb := opx_b o ho (p - 1) (by omega) (f - 1) (by omega)
      have hne : f ≠ p := fun q => h.2 (q ▸ hf)
      refine ⟨this.1, this.2.1, ?_⟩
      rw [hb, this.2.2, Bool.true_and]
      have : (f - 1 == p - 1) = false := by
        rw [beq_eq_false_iff_ne]
        omega
      rw [this]
      rfl
theorem AO_ok (hI : Inv μ) (hM : (fL (Op μ)).length ≤ 5) {p h : Nat} (hp : p < 8) {ds : List Nat} (a : AO μ p h ds) : OKo μ p h (rowD (Op μ) ds) := by
  refine ⟨(opA_v (Op_ok hI).2 hp).mpr ⟨rowD_v hM a.1, a.2.1⟩, ?_⟩
  have := a.2.2
  omega
theorem AO_of (hI : Inv μ) {p h : Nat} (hp : p < 8) {R : List Nat} (a : OKo μ p h R) : ∃ ds, AO μ p h ds ∧ R = rowD (Op μ) ds := by
  have v := (opA_v (Op_ok hI).2 hp).mp a.1
  obtain ⟨ds, h1, h2⟩ := rowD_of v.1
  refine ⟨ds, ⟨h1, by rw [← h2]; exact v.2, ?_⟩, h2⟩
  rw [← h2]
  have := a.2
  omega
/-- what the pack is worth along a row, in the reference's units -/
def Vq (μ : pp_M) (R : List Nat) : Int := pg (fun t k => wv μ t R k) 0 (pkL μ) * 16 ^ (5 - R.length)
theorem Vo_Vq {R : List Nat} (hr : R.length ≤ 5) : Vo μ R = Vq μ R * 256 := by
  have e := pg_sc (fun t k => wv μ t R k) (16 ^ (7 - R.length)) (pkL μ) 0
  unfold Vo Vq
  show pg (fun t k => wv μ t R k * 16 ^ (7 - R.length)) 0 (pkL μ) = _
  rw [e, show 7 - R.length = (5 - R.length) + 2 by omega, Int.pow_add, ← Int.mul_assoc]
  rfl
def vo (μ : pp_M) (ds : List Nat) : Int := Vq μ (rowD (Op μ) ds)
theorem vo_bd (hI : Inv μ) (hM : (fL (Op μ)).length ≤ 5) {ds : List Nat} (h : vD (fL (Op μ)).length ds) : -6000000000000 ≤ vo μ ds ∧ vo μ ds ≤ 6000000000000 := by
  have hv := rowD_v hM h
  have := Vo_bd hI (v8 hv).2 (v8 hv).1
  rw [Vo_Vq hv.1] at this
  unfold vo
  omega
def hdR (R : List Nat) : Int32 := match R with
  | [] => -1
  | f :: _ => nI f
def bO (μ : pp_M) (C : List Nat → Prop) (ds : List Nat) : Prop := C ds ∧ ∀ es, C es → vo μ es < vo μ ds ∨ (vo μ es = vo μ ds ∧ code8 (rowD (Op μ) ds) ≤ code8 (rowD (Op μ) es))
def JO (μ ν : pp_M) (C : List Nat → Prop) (a3 : Int32) (a4 : Int64) : Prop := J0 μ ν ∧ ((a3 = -1 ∧ a4 = lI NG ∧ ∀ ds, ¬ C ds) ∨ ∃ ds, bO μ C ds ∧ a4 = lI (vo μ ds) ∧ a3 = hdR (rowD (Op μ) ds))
def onEnd (k45 : pp_M → Int32 → Int32 → Int32 → Int64 → Int32 → Option (Int32 × pp_M)) (k57 : pp_M → Int32 → Int32 → Int32 → Int64 → Int32 → Int32 → Option (Int32 × pp_M)) (ν : pp_M) (a1 a2 a3 : Int32) (a4 : Int64) (a6 a7 : Int32) (a9 : Int64) : Option (Int32 × pp_M) :=
  (f_X9_sixteen ν ((5 : Int32) - a6)).bind fun x196 =>
    if a4 < (a9 * x196.1) then
      if a6 = 0 then
        f_X9_onward_229 k45 k57 x196.2 a1 a2 (a9 * x196.1) a6 a7 (-1 : Int32)
      else
        f_X9_onward_229 k45 k57 x196.2 a1 a2 (a9 * x196.1) a6 a7 (x196.2.1 55 0)
    else
      f_X9_onward_230 k45 k57 x196.2 a1 a2 a3 a4 a6 a7
section LOOP
variable (k45 : pp_M → Int32 → Int32 → Int32 → Int64 → Int32 → Option (Int32 × pp_M)) (k57 : pp_M → Int32 → Int32 → Int32 → Int64 → Int32 → Int32 → Option (Int32 × pp_M)) {a1 a2 a3 a6 a7 : Int32} {a4 : Int64}
theorem m_on154 {R : List Nat} (hW : ∀ t, t < 6 → ∀ k, k < 5 → ν.2 56 (5 * (8 * t + 0) + k) = lI (wv μ t R k)) : ∀ (q : List Nat) (t n : Nat) (acc : Int), t + q.length = 6 → q.length < n → (∀ i, i < q.length → ν.1 54 (t + i) = nI (q.getD i 0) ∧ q.getD i 0 ≤ 4) → f_X9_onward_154 k45 k57 n ν a1 a2 a3 a4 a6 a7 (lI acc) (nI t) = onEnd k45 k57 ν a1 a2 a3 a4 a6 a7 (lI (acc + pg (fun t k => wv μ t R k) t q)) := by
  intro q
  induction q with
  | nil =>
    intro t n acc ht hn' hq
    rw [List.length_nil] at ht hn'
    obtain ⟨n, rfl⟩ : ∃ n', n = n' + 1 := ⟨n - 1, by omega⟩
    have : t = 6 := by omega
    subst this
    show f_X9_onward_154_B k45 k57 (f_X9_onward_154 k45 k57 n) _ _ _ _ _ _ _ _ _ = _
    unfold f_X9_onward_154_B pg
    rw [if_neg (show ¬ nI 6 < (6 : Int32) from q_nlt 6), Int.add_zero]
    rfl
  | cons k q ih =>
    intro t n acc ht hn' hq
    rw [List.length_cons] at ht hn'
    obtain ⟨n, rfl⟩ : ∃ n', n = n' + 1 := ⟨n - 1, by omega⟩
    have h0 := hq 0 (by rw [List.length_cons]; omega)
    rw [Nat.add_zero] at h0
    have e0 : (k :: q).getD 0 0 = k := rfl
    rw [e0] at h0
    have i1 : pp_ix (nI t) 6 := q_ix (by omega) (by omega)
    have i2 : pp_ix (nI (5 * (8 * t + 0) + k)) 240 := q_ix (by omega) (by omega)
    have e1 : (5 : Int32) * ((8 : Int32) * nI t + (0 : Int32)) + nI k = nI (5 * (8 * t + 0) + k) := by rw [c5I, c8I, show (0 : Int32) = nI 0 from rfl, pk_mul, nI_add, pk_mul, nI_add]
    show f_X9_onward_154_B k45 k57 (f_X9_onward_154 k45 k57 n) _ _ _ _ _ _ _ _ _ = _
    unfold f_X9_onward_154_B f_X9_spot
    rw [if_pos (show nI t < (6 : Int32) from nI_lt (b := 6) (by omega) (by omega)), if_pos i1, q_cl (k := t) (by omega), h0.1, Option.bind_some, e1, if_pos i2, q_cl (k := 5 * (8 * t + 0) + k) (by omega), hW t (by omega) k (by omega), lI_add, nI_1]
    rw [ih (t + 1) n (acc + wv μ t R k) (by omega) (by omega) (fun i hi => by
      have := hq (i + 1) (by rw [List.length_cons]; omega)
      rw [show t + (i + 1) = t + 1 + i by omega] at this
      exact this)]
    show onEnd k45 k57 ν a1 a2 a3 a4 a6 a7 (lI (acc + wv μ t R k + pg (fun t k => wv μ t R k) (t + 1) q)) = onEnd k45 k57 ν a1 a2 a3 a4 a6 a7 (lI (acc + (wv μ t R k + pg (fun t k => wv μ t R k) (t + 1) q)))
    rw [Int.add_assoc]
theorem m_on89z {i : Int32} {N : Nat} : f_X9_onward_89 k45 k57 (N + 1) ν a1 a2 a3 a4 a6 a7 0 i = f_X9_onward_125 k45 k57 ν a1 a2 a3 a4 a6 a7 0 := by
  show f_X9_onward_89_B k45 k57 (f_X9_onward_89 k45 k57 N) _ _ _ _ _ _ _ _ _ = _
  unfold f_X9_onward_89_B
  by_cases c : i < a6
  · rw [if_pos c, if_pos rfl]
  · rw [if_neg c]
theorem m_on89 {p n : Nat} (hp : p < 8) (hn5 : n ≤ 5) : ∀ (q : List Nat) (i N : Nat), i + q.length = n → q.length < N → (∀ j, j < q.length → ν.1 55 (i + j) = nI (q.getD j 0)) → (∀ g ∈ q, g < 8) → f_X9_onward_89 k45 k57 N ν (nI p) a2 a3 a4 (nI n) a7 1 (nI i) = f_X9_onward_125 k45 k57 ν (nI p) a2 a3 a4 (nI n) a7 (if p ∈ q then 0 else 1) := by
  intro q
  induction q with
  | nil =>
    intro i N hi hN h h8
    rw [List.length_nil] at hi hN
    obtain ⟨N, rfl⟩ : ∃ n', N = n' + 1 := ⟨N - 1, by omega⟩
    have : i = n := by omega
    subst this
    show f_X9_onward_89_B k45 k57 (f_X9_onward_89 k45 k57 N) _ _ _ _ _ _ _ _ _ = _
    unfold f_X9_onward_89_B
    rw [if_neg (q_nlt i), if_neg (fun q => by cases q)]
  | cons g q ih =>
    intro i N hi hN h h8
    rw [List.length_cons] at hi hN
    obtain ⟨N, rfl⟩ : ∃ n', N = n' + 1 := ⟨N - 1, by omega⟩
    have h0 := h 0 (by rw [List.length_cons]; omega)
    rw [Nat.add_zero] at h0
    have e0 : (g :: q).getD 0 0 = g := rfl
    rw [e0] at h0
    have hg := h8 g (List.mem_cons_self ..)
    have i1 : pp_ix (nI i) 7 := q_ix (by omega) (by omega)
    show f_X9_onward_89_B k45 k57 (f_X9_onward_89 k45 k57 N) _ _ _ _ _ _ _ _ _ = _
    unfold f_X9_onward_89_B f_X9_onward_117
    rw [if_pos (nI_lt (by omega) (by omega)), if_neg (show ¬ (1 : Int32) = 0 by decide), if_pos i1, q_cl (k := i) (by omega), h0, nI_1]
    by_cases c : g = p
    · rw [if_pos (by rw [c]), if_pos (by rw [c]; exact List.mem_cons_self ..)]
      obtain ⟨N, rfl⟩ : ∃ n', N = n' + 1 := ⟨N - 1, by omega⟩
      exact m_on89z k45 k57
    · rw [if_neg (fun z => c ((nI_eqI (by omega) (by omega)).mp z)), ih (i + 1) N (by omega) (by omega) (fun j hj => by
        have := h (j + 1) (by rw [List.length_cons]; omega)
        rw [show i + (j + 1) = i + 1 + j by omega] at this
        exact this) (fun x hx => h8 x (List.mem_cons_of_mem _ hx))]
      by_cases c2 : p ∈ q
      · rw [if_pos c2, if_pos (List.mem_cons_of_mem _ c2)]
      · rw [if_neg c2, if_neg (fun z => by
          rcases List.mem_cons.mp z with z | z
          · exact c z.symm
          · exact c2 z)]
end LOOP
theorem m_onNew (hI : Inv μ) (hM : (fL (Op μ)).length ≤ 5) (k45 : pp_M → Int32 → Int32 → Int32 → Int64 → Int32 → Option (Int32 × pp_M)) (k57 : pp_M → Int32 → Int32 → Int32 → Int64 → Int32 → Int32 → Option (Int32 × pp_M)) {a1 a2 a3 : Int32} {a4 : Int64} {c : Nat} {C : List Nat → Prop} {es : List Nat} (hes : vD (fL (Op μ)).length es) (hC : ∀ ds, C ds → vD (fL (Op μ)).length ds ∧ code8 (rowD (Op μ) ds) ≤ code8 (rowD (Op μ) es)) (h : JO μ ν C a3 a4) (hr : isRow (ν.1 55) 0 (rowD (Op μ) es)) : ∃ b3 b4, onEnd k45 k57 ν a1 a2 a3 a4 (nI es.length) (nI c) (lI (pg (fun t k => wv μ t (rowD (Op μ) es) k) 0 (pkL μ))) = k57 ν a1 a2 b3 b4 (nI es.length) (nI (c + 1)) ∧ JO μ ν (fun ds => C ds ∨ ds = es) b3 b4 := by
  have hl := pigeon _ _ hes
  have hve := vo_bd hI hM hes
  have hvd : ∀ ds, C ds → -6000000000000 ≤ vo μ ds ∧ vo μ ds ≤ 6000000000000 := fun ds hd => vo_bd hI hM (hC ds hd).1
  have hNG : NG = -1000000000000000000 := rfl
  have ev : lI (pg (fun t k => wv μ t (rowD (Op μ) es) k) 0 (pkL μ)) * lI (16 ^ (5 - es.length)) = lI (vo μ es) := by
    rw [lI_mul]
    unfold vo Vq
    rw [rowD_len]
  unfold onEnd f_X9_onward_229 f_X9_onward_230
  rw [show (5 : Int32) = nI 5 from rfl, pk_sub (by omega), m_sixteen (by omega), Option.bind_some, ev, nI_1]
  have new : (∀ ds, C ds → vo μ ds < vo μ es) → a4 < lI (vo μ es) → ∃ b3 b4, (if a4 < lI (vo μ es) then (if nI es.length = 0 then k57 ν a1 a2 (-1) (lI (vo μ es)) (nI es.length) (nI (c + 1)) else k57 ν a1 a2 (ν.1 55 0) (lI (vo μ es)) (nI es.length) (nI (c + 1))) else k57 ν a1 a2 a3 a4 (nI es.length) (nI (c + 1))) = k57 ν a1 a2 b3 b4 (nI es.length) (nI (c + 1)) ∧ JO μ ν (fun ds => C ds ∨ ds = es) b3 b4 := fun hn ha => by
    have hB : bO μ (fun ds => C ds ∨ ds = es) es := ⟨Or.inr rfl, fun fs hf => by
      rcases hf with hf | hf
      · exact Or.inl (hn fs hf)
      · rw [hf]; exact Or.inr ⟨rfl, Nat.le_refl _⟩⟩
    rw [if_pos ha]
    by_cases e : es.length = 0
    · rw [if_pos (by rw [e]; rfl)]
      refine ⟨_, _, rfl, h.1, Or.inr ⟨es, hB, rfl, ?_⟩⟩
      have : es = [] := List.eq_nil_of_length_eq_zero e
      rw [this]
      rfl
    · rw [if_neg (show ¬ nI es.length = (0 : Int32) from fun z => e ((nI_eqI (b := 0) (by omega) (by omega)).mp z))]
      refine ⟨_, _, rfl, h.1, Or.inr ⟨es, hB, rfl, ?_⟩⟩
      have h0 := hr 0 (by rw [rowD_len]; omega)
      rw [Nat.add_zero] at h0
      rw [h0]
      cases es with
      | nil => exact absurd rfl e
      | cons d ds => rfl
  rcases h.2 with ⟨b1, b2, b3⟩ | ⟨ds, b1, b2, b3⟩
  · exact new (fun ds hd => absurd hd (b3 ds)) (by rw [b2]; exact (lI_lt (by omega) (by omega) (by omega) (by omega)).mpr (by omega))
  · have hd := hvd ds b1.1
    by_cases cc : vo μ ds < vo μ es
    · exact new (fun fs hf => by rcases b1.2 fs hf with q | q <;> omega) (by rw [b2]; exact (lI_lt (by omega) (by omega) (by omega) (by omega)).mpr cc)
    · rw [b2, if_neg (fun q => cc ((lI_lt (by omega) (by omega) (by omega) (by omega)).mp q))]
      refine ⟨_, _, rfl, h.1, Or.inr ⟨ds, ⟨Or.inl b1.1, fun fs hf => ?_⟩, rfl, b3⟩⟩
      rcases hf with hf | hf
      · exact b1.2 fs hf
      · rw [hf]
        by_cases e : vo μ es < vo μ ds
        · exact Or.inl e
        · exact Or.inr ⟨by omega, (hC ds b1.1).2⟩
theorem JO_fr {ν ν' : pp_M} {C : List Nat → Prop} {a3 : Int32} {a4 : Int64} (h : JO μ ν C a3 a4) (hf : fr PLK ν ν') : JO μ ν' C a3 a4 := ⟨PLK_J0 h.1 hf, h.2⟩
theorem m_on57 (hI : Inv μ) (hM : (fL (Op μ)).length ≤ 5) (k45 : pp_M → Int32 → Int32 → Int32 → Int64 → Int32 → Option (Int32 × pp_M)) {n p hh : Nat} (hn5 : n ≤ 5) (hp : p < 8) (hh2 : hh ≤ 200) : ∀ d c N ν a3 a4, c + d = 5 ^ n → d < N → JO μ ν (dq (AO μ p hh) n c) a3 a4 → ∃ ν' b3 b4, f_X9_onward_57 k45 N ν (nI p) (nI hh) a3 a4 (nI n) (nI c) = k45 ν' (nI p) (nI hh) b3 b4 (nI (n + 1)) ∧ JO μ ν' (dq (AO μ p hh) (n + 1) 0) b3 b4 := by
  have hA : ∀ ds, AO μ p hh ds → vD (fL (Op μ)).length ds := fun ds h => h.1
  have h5 : (5 : Nat) ^ n ≤ 5 ^ 5 := Nat.pow_le_pow_right (by omega) hn5
  intro d
  induction d with
  | zero =>
    intro c N ν a3 a4 hc hN h
    obtain ⟨N, rfl⟩ : ∃ n', N = n' + 1 := ⟨N - 1, by omega⟩
    have e : c = 5 ^ n := by omega
    rw [e, dq_end hA hM] at h
    refine ⟨ν, a3, a4, ?_, h⟩
    show f_X9_onward_57_B k45 (f_X9_onward_57 k45 N) _ _ _ _ _ _ _ = _
    unfold f_X9_onward_57_B
    rw [m_fives hn5, Option.bind_some, e, if_neg (q_nlt _), nI_1]
  | succ d ih =>
    intro c N ν a3 a4 hc hN h
    obtain ⟨N, rfl⟩ : ∃ n', N = n' + 1 := ⟨N - 1, by omega⟩
    have hc5 : c < 5 ^ n := by omega
    obtain ⟨r, ν1, g1, g2, g3, g4⟩ := m_looksAt (ν := ν) hM hn5 hc5 h.1.2.1
    have f1 : fr PLK ν ν1 := fr_mono g2 (fun t i q => by unfold PLA at q; unfold PLK; omega)
    have h1 := JO_fr h f1
    have e0 : f_X9_onward_57 k45 (N + 1) ν (nI p) (nI hh) a3 a4 (nI n) (nI c) = f_X9_onward_57_B k45 (f_X9_onward_57 k45 N) ν (nI p) (nI hh) a3 a4 (nI n) (nI c) := rfl
    unfold f_X9_onward_57_B f_X9_onward_84 at e0
    rw [m_fives hn5, Option.bind_some, if_pos (nI_lt hc5 (by omega)), g1, Option.bind_some] at e0
    have skip : ∀ ν', JO μ ν' (dq (AO μ p hh) n c) a3 a4 → ¬ AO μ p hh (dgs n c) → f_X9_onward_57 k45 (N + 1) ν (nI p) (nI hh) a3 a4 (nI n) (nI c) = f_X9_onward_230 k45 (f_X9_onward_57 k45 N) ν' (nI p) (nI hh) a3 a4 (nI n) (nI c) → ∃ ν' b3 b4, f_X9_onward_57 k45 (N + 1) ν (nI p) (nI hh) a3 a4 (nI n) (nI c) = k45 ν' (nI p) (nI hh) b3 b4 (nI (n + 1)) ∧ JO μ ν' (dq (AO μ p hh) (n + 1) 0) b3 b4 := fun ν' j1 j2 j3 => by
      rw [← dq_skip hA hM j2] at j1
      obtain ⟨ν2, b3, b4, d1, d2⟩ := ih (c + 1) N ν' a3 a4 (by omega) (by omega) j1
      refine ⟨ν2, b3, b4, ?_, d2⟩
      rw [j3]
      unfold f_X9_onward_230
      rw [nI_1]
      exact d1
    by_cases hv : vD (fL (Op μ)).length (dgs n c)
    · obtain ⟨r1, r2, r3⟩ := g3 hv
      have hrv := rowD_v hM hv
      have hl : (rowD (Op μ) (dgs n c)).length = n := by rw [rowD_len, dgs_len]
      have hb : bsD (dgs n c) < 32 := by
        have h1 := bsD_lt (dgs n c) hv.2
        have h2 : (2 : Nat) ^ (fL (Op μ)).length ≤ 2 ^ 5 := Nat.pow_le_pow_right (by omega) hM
        omega
      have r2' : ν1.1 40 22 = nI (rowD (Op μ) (dgs n c)).length := by rw [hl]; exact r2
      have h89 := m_on89 (ν := ν1) k45 (f_X9_onward_57 k45 N) (a2 := nI hh) (a3 := a3) (a4 := a4) (a7 := nI c) hp hn5 (rowD (Op μ) (dgs n c)) 0 100000 (by omega) (by omega) (fun j hj => by
        have := r3 j hj
        exact this) (v8 hrv).1
      rw [r1, if_neg (show ¬ nI (bsD (dgs n c)) = (-1 : Int32) from nI_nm1 (by omega)), show f_X9_onward_89 k45 (f_X9_onward_57 k45 N) 100000 ν1 (nI p) (nI hh) a3 a4 (nI n) (nI c) 1 0 = _ from h89] at e0
      by_cases hpm : p ∈ rowD (Op μ) (dgs n c)
      · rw [if_pos hpm] at e0
        unfold f_X9_onward_125 at e0
        rw [if_pos rfl] at e0
        exact skip ν1 h1 (fun q => q.2.1 hpm) e0
      have hho := m_hoursFrom (ν := ν1) hI (v8 hrv).2 (v8 hrv).1 h1.1.2.2 r2' r3 hp
      rw [if_neg hpm] at e0
      unfold f_X9_onward_125 at e0
      rw [if_neg (show ¬ (1 : Int32) = 0 by decide), hho, Option.bind_some, nI_add] at e0
      have hbd := hrN_bd (DW_ok hI).1 (rowD (Op μ) (dgs n c)) p hp (v8 hrv).1
      rw [hl] at hbd
      have h6 : ν1.1 40 6 = μ.1 40 6 := (h1.1.1 40 6 (by unfold sM; omega)).1
      have hlt : (ν1.1 40 6 < nI (hh + hrN (DW μ) p (rowD (Op μ) (dgs n c)))) ↔ ¬ ((hh + hrN (DW μ) p (rowD (Op μ) (dgs n c)) : Nat) : Int) ≤ (μ.1 40 6).toInt := by
        rw [h6, Int32.lt_iff_toInt_lt, nI_toInt (by omega)]
        omega
      by_cases ho : ((hh + hrN (DW μ) p (rowD (Op μ) (dgs n c)) : Nat) : Int) ≤ (μ.1 40 6).toInt
      · rw [if_neg (fun q => (hlt.mp q) ho)] at e0
        obtain ⟨ν2, m1, m2, m3⟩ := m_laysWorth (inv_fr hI h1.1.1) (v8 hrv).2 (v8 hrv).1 r2' r3
        have f2 : fr PLK ν1 ν2 := fr_mono m2 (fun t i q => by unfold P56 at q; unfold PLK; omega)
        have h2 := JO_fr h1 f2
        have r4 : isRow (ν2.1 55) 0 (rowD (Op μ) (dgs n c)) := fun i hi => by rw [(m2 55 _ (by unfold P56; omega)).1]; exact r3 i hi
        have hAA : AO μ p hh (dgs n c) := ⟨hv, hpm, ho⟩
        have h154 := m_on154 (μ := μ) (ν := ν2) k45 (f_X9_onward_57 k45 N) (a1 := nI p) (a2 := nI hh) (a3 := a3) (a4 := a4) (a6 := nI n) (a7 := nI c) (R := rowD (Op μ) (dgs n c)) (fun t ht k hk => ((VS_mu h1.1.1 (m3 t ht 0 (by omega))) k hk).1) (pkL μ) 0 100000 0 (by rw [(pkL_ok hI).1]) (by rw [(pkL_ok hI).1]; omega) (fun i hi => by
          have hi6 : i < 6 := by rw [(pkL_ok hI).1] at hi; exact hi
          rw [Nat.zero_add, (h2.1.1 54 i (by unfold sM; omega)).1]
          exact (pkL_ok hI).2 i hi6)
        rw [Int.zero_add] at h154
        obtain ⟨b3, b4, s1, s2⟩ := m_onNew hI hM k45 (f_X9_onward_57 k45 N) (a1 := nI p) (a2 := nI hh) (c := c) hv (fun ds hd => ⟨hd.1.1, dq_ord hA hM hc5 hAA hd⟩) h2 r4
        rw [← dq_add hA hM hc5 hAA] at s2
        rw [dgs_len] at s1
        obtain ⟨ν4, c3, c4, d1, d2⟩ := ih (c + 1) N ν2 b3 b4 (by omega) (by omega) s2
        refine ⟨ν4, c3, c4, ?_, d2⟩
        rw [m1, Option.bind_some, show f_X9_onward_154 k45 (f_X9_onward_57 k45 N) 100000 ν2 (nI p) (nI hh) a3 a4 (nI n) (nI c) 0 0 = _ from h154] at e0
        exact e0.trans (s1.trans d1)
      · rw [if_pos (hlt.mpr ho)] at e0
        exact skip ν1 h1 (fun q => ho q.2.2) e0
    · rw [g4 hv, if_pos rfl, show f_X9_onward_89 k45 (f_X9_onward_57 k45 N) 100000 ν1 (nI p) (nI hh) a3 a4 (nI n) (nI c) 0 0 = _ from m_on89z k45 (f_X9_onward_57 k45 N) (N := 99999)] at e0
      unfold f_X9_onward_125 at e0
      rw [if_pos rfl] at e0
      exact skip ν1 h1 (fun q => hv q.1) e0
theorem m_on45 (hI : Inv μ) (hM : (fL (Op μ)).length ≤ 5) {p hh : Nat} (hp : p < 8) (hh2 : hh ≤ 200) : ∀ d n N ν a3 a4, n + d = (fL (Op μ)).length + 1 → d < N → JO μ ν (dq (AO μ p hh) n 0) a3 a4 → ∃ ν' b3 b4, f_X9_onward_45 N ν (nI p) (nI hh) a3 a4 (nI n) = some (b3, ν') ∧ JO μ ν' (AO μ p hh) b3 b4 := by
  intro d
  induction d with
  | zero =>
    intro n N ν a3 a4 hn hN h
    obtain ⟨N, rfl⟩ : ∃ n', N = n' + 1 := ⟨N - 1, by omega⟩
    have e : n = (fL (Op μ)).length + 1 := by omega
    rw [e, dq_all (fun ds h => h.1)] at h
    refine ⟨ν, a3, a4, ?_, h⟩
    show f_X9_onward_45_B (f_X9_onward_45 N) _ _ _ _ _ _ = _
    unfold f_X9_onward_45_B
    rw [h.1.2.1.1, if_pos (nI_lt (by omega) (by omega))]
  | succ d ih =>
    intro n N ν a3 a4 hn hN h
    obtain ⟨N, rfl⟩ : ∃ n', N = n' + 1 := ⟨N - 1, by omega⟩
    have h5 : (5 : Nat) ^ n ≤ 5 ^ 5 := Nat.pow_le_pow_right (by omega) (by omega)
    obtain ⟨ν1, b3, b4, g1, g2⟩ := m_on57 hI hM (f_X9_onward_45 N) (show n ≤ 5 by omega) hp hh2 (5 ^ n) 0 100000 ν a3 a4 (by omega) (by omega) h
    obtain ⟨ν2, c3, c4, d1, d2⟩ := ih (n + 1) N ν1 b3 b4 (by omega) (by omega) g2
    refine ⟨ν2, c3, c4, ?_, d2⟩
    show f_X9_onward_45_B (f_X9_onward_45 N) _ _ _ _ _ _ = _
    unfold f_X9_onward_45_B
    rw [h.1.2.1.1, if_neg (q_nl (by omega) (by omega)), show f_X9_onward_57 (f_X9_onward_45 N) 100000 ν (nI p) (nI hh) a3 a4 (nI n) 0 = _ from g1]
    exact d1
theorem JO_best (hI : Inv μ) (hM : (fL (Op μ)).length ≤ 5) {p hh : Nat} (hp : p < 8) {a3 : Int32} {a4 : Int64} (h : JO μ ν (AO μ p hh) a3 a4) {R : List Nat} (hb : bestIn (Vo μ) (OKo μ p hh) R) : a3 = hdR R := by
  rcases h.2 with ⟨b1, b2, b3⟩ | ⟨ds, b1, b2, b3⟩
  · obtain ⟨ds, d1, d2⟩ := AO_of hI hp hb.1
    exact absurd d1 (b3 ds)
  · have hk := AO_ok hI hM hp b1.1
    have hB : bestIn (Vo μ) (OKo μ p hh) (rowD (Op μ) ds) := ⟨hk, fun R' h' => by
      obtain ⟨es, e1, e2⟩ := AO_of hI hp h'
      have hv : Vq μ R' = vo μ es := by rw [e2]; rfl
      rw [Vo_Vq h'.1.1, Vo_Vq hk.1.1, hv, show Vq μ (rowD (Op μ) ds) = vo μ ds from rfl]
      rcases b1.2 es e1 with q | q
      · exact Or.inl (by omega)
      · exact Or.inr ⟨by rw [q.1], by rw [e2]; exact q.2⟩⟩
    have := best_uniq (rOk_o hI p hh) hb hB
    rw [this]
    exact b3
theorem h_onward {Ca : pp_M → pp_M → Prop} (hCa : CaOk Ca) (a1 a2 : Int32) (h : Rel Ca σ μ) : ∃ (r : Int32) (σ' μ' : pp_M), f_X8_onward σ a1 a2 = some (r, σ') ∧ f_X9_onward μ a1 a2 = some (r, μ') ∧ Rel Ca σ' μ' := by
  have hI := h.2.1
  unfold f_X8_onward f_X9_onward
  rw [k_isPlace, m_isPlace, Option.bind_some, Option.bind_some]
  by_cases c0 : wi a1 0 7 = 0
  · rw [if_pos c0, if_pos c0]; exact ⟨_, _, _, rfl, rfl, h⟩
  rw [if_neg c0, if_neg c0, k_within, m_in, Option.bind_some, Option.bind_some]
  by_cases c1 : wi a2 0 200 = 0
  · rw [if_pos c1, if_pos c1]; exact ⟨_, _, _, rfl, rfl, h⟩
  obtain ⟨ν1, m1, m2, m3⟩ := m_gathers hI (fr_rf (σ := μ))
  rw [if_neg c1, if_neg c1, k_tooMany h.1 hI, m1, Option.bind_some, Option.bind_some]
  by_cases c2 : 5 < (fL (Op μ)).length
  · rw [if_pos c2, if_pos c2, if_neg (show ¬ (1 : Int32) = 0 by decide), if_pos rfl]
    exact ⟨_, _, _, rfl, rfl, rel_scratch hCa h fr_rf m2⟩
  have hM : (fL (Op μ)).length ≤ 5 := by omega
  obtain ⟨p, hp, rfl⟩ := wi_of (n := 7) rfl c0
  obtain ⟨hh, hh2, rfl⟩ := wi_of (n := 200) rfl c1
  obtain ⟨σ1, g1, g2, g3⟩ := k_findOnward h (show p < 8 by omega) hh2
  obtain ⟨B', b1, b2, b3⟩ := k_bestSet g2 (rOk_o hI p hh)
  obtain ⟨w, w1, w2⟩ := m_laysWays ν1
  have a1 : fr (fun t i => t = 46) ν1 (ppF ν1 46 w) := pF_fr (fun i => rfl)
  have j0 : J0 μ (ppF ν1 46 w) := by
    refine ⟨fr_tr m2 (fr_mono a1 (fun t i q => by unfold sM; omega)), ⟨by rw [(a1 40 32 (by omega)).1]; exact m3.1, fun i hi => by rw [(a1 61 i (by omega)).1]; exact m3.2 i hi⟩, fun k hk => ?_⟩
    rw [pF_rd, w2 k hk, show ν1.1 45 = μ.1 45 from funext fun i => (m2 45 i (by unfold sM; omega)).1, (DW_ok hI).2.1 k hk]
  have jO : JO μ (ppF ν1 46 w) (dq (AO μ p hh) 0 0) (-1) (lI NG) := ⟨j0, Or.inl ⟨rfl, rfl, fun ds q => by rw [dq_0] at q; exact q⟩⟩
  obtain ⟨ν2, r3, r4, d1, d2⟩ := m_on45 hI hM (show p < 8 by omega) hh2 ((fL (Op μ)).length + 1) 0 100000 _ _ _ (by omega) (by omega) jO
  have rel := rel_scratch hCa g3 (fr_rf (σ := σ1)) d2.1.1
  have i1 : pp_ix (nI B') 128 := q_ix b1 (by omega)
  rw [if_neg c2, if_neg c2, if_pos rfl, if_neg (show ¬ (1 : Int32) = 0 by decide), g1, Option.bind_some, b2, Option.bind_some, if_pos i1, q_cl (k := B') (by omega), w1, Option.bind_some, show f_X9_onward_45 100000 (ppF ν1 46 w) (nI p) (nI hh) (-1) (-1000000000000000000) 0 = _ from d1]
  rcases b3 with ⟨e1, e2, e3⟩ | ⟨R, e1, e2, e3⟩
  · have hr : r3 = -1 := by
      rcases d2.2 with ⟨q1, q2, q3⟩ | ⟨ds, q1, q2, q3⟩
      · exact q1
      · exact absurd (AO_ok hI hM (by omega) q1.1) (e3 _)
    have hf : f_X8_farmsOf σ1 (nI (code8 [])) = some (nI ([] : List Nat).length, σ1) := k_farmsOf (R := []) (by decide) (fun f hf => by cases hf)
    rw [e1, e2, show (0 : Int32) = nI (code8 []) from rfl, hf, Option.bind_some, hr, if_neg (show ¬ nI (code8 []) < nI ([] : List Nat).length by decide)]
    exact ⟨_, _, _, rfl, rfl, rel⟩
  · have hR := (rOk_o hI p hh) R e1.1
    have hf := k_farmsOf (σ := σ1) hR.1 hR.2.1
    have hr := JO_best hI hM (by omega) d2 e1
    rw [e3, hf, Option.bind_some, hr]
    cases R with
    | nil =>
      rw [if_neg (show ¬ (0 : Int32) < nI ([] : List Nat).length by decide)]
      exact ⟨_, _, _, rfl, rfl, rel⟩
    | cons f fs =>
      have hfo := k_farmOf (σ := σ1) (i := 0) hR.1 hR.2.1 (by rw [List.length_cons]; omega)
      rw [Nat.sub_zero] at hfo
      rw [if_pos (show (0 : Int32) < nI (f :: fs).length from nI_lt (a := 0) (by rw [List.length_cons]; omega) (by omega)), e3, c1I, pk_sub (by rw [List.length_cons]; omega), hfo, Option.bind_some]
      exact ⟨_, _, _, rfl, rfl, rel⟩
end ONWARD
