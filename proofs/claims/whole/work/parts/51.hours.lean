/-! the WAYS as numbers; hours, judged -/
section HOURS
variable {Ca : pp_M → pp_M → Prop} {σ μ ν : pp_M}
def nw0 (r : Nat → Int32) (k : Nat) : Nat := if k / 8 = k % 8 then 0 else if 0 < r k then (r k).toInt.toNat else 1000
def nwE (o : Nat) (D : Nat → Nat) (k : Nat) : Nat := if D (k / 8 * 8 + o) + D (8 * o + k % 8) < D k then D (k / 8 * 8 + o) + D (8 * o + k % 8) else D k
def nwB (D : Nat → Nat) : Nat → Nat → Nat
  | 0 => D
  | n + 1 => nwE n (nwB D n)
theorem nw0_ok {r : Nat → Int32} (h : ∀ i, i < 64 → bd (r i) 0 60) {k : Nat} (hk : k < 64) : fw0 r k = nI (nw0 r k) ∧ nw0 r k ≤ 1000 ∧ (k / 8 = k % 8 → nw0 r k = 0) := by
  unfold fw0 nw0
  by_cases c : k / 8 = k % 8
  · rw [if_pos c, if_pos c]; exact ⟨rfl, by omega, fun _ => rfl⟩
  · rw [if_neg c, if_neg c]
    have hb := h k hk
    unfold bd at hb
    by_cases c2 : 0 < r k
    · rw [if_pos c2, if_pos c2]
      obtain ⟨j, hj, e⟩ := q_of (x := r k) (n := 60) hb.1 hb.2
      rw [e, nI_toInt (by omega)]
      exact ⟨rfl, by omega, fun q => absurd q c⟩
    · rw [if_neg c2, if_neg c2]; exact ⟨rfl, by omega, fun q => absurd q c⟩
/-- bounded, and nothing from a place to itself -/
def nwOk (D : Nat → Nat) : Prop := (∀ k, k < 64 → D k ≤ 1000) ∧ ∀ a, a < 8 → D (9 * a) = 0
theorem nwE_ok {D : Nat → Nat} {o : Nat} (h : nwOk D) : nwOk (nwE o D) := by
  refine ⟨fun k hk => ?_, fun a ha => ?_⟩
  · have := h.1 k hk
    unfold nwE
    split <;> omega
  · have := h.2 a ha
    unfold nwE
    rw [this]
    split <;> omega
theorem nwB_ok {D : Nat → Nat} (h : nwOk D) : ∀ n, nwOk (nwB D n)
  | 0 => h
  | n + 1 => nwE_ok (nwB_ok h n)
/-- a stage in place is a stage at once -/
theorem fwR_nw {w : Nat → Int32} {D : Nat → Nat} {o : Nat} (ho : o < 8) (hD : nwOk D) (hw : ∀ k, k < 64 → w k = nI (D k)) : ∀ n, n ≤ 64 → ∀ j, j < 64 → fwR o w n j = nI (if j < n then nwE o D j else D j)
  | 0, _, j, hj => by
    rw [if_neg (by omega)]
    exact hw j hj
  | n + 1, hn, j, hj => by
    have ih := fwR_nw ho hD hw n (by omega)
    show fwS o n (fwR o w n) j = _
    unfold fwS
    have h9 := hD.2 o ho
    have row : nwE o D (8 * o + n % 8) = D (8 * o + n % 8) := by
      unfold nwE
      rw [show (8 * o + n % 8) / 8 * 8 + o = 9 * o by omega, show 8 * o + (8 * o + n % 8) % 8 = 8 * o + n % 8 by omega, h9]
      split <;> omega
    have col : nwE o D (n / 8 * 8 + o) = D (n / 8 * 8 + o) := by
      unfold nwE
      rw [show (n / 8 * 8 + o) / 8 * 8 + o = n / 8 * 8 + o by omega, show 8 * o + (n / 8 * 8 + o) % 8 = 9 * o by omega, h9]
      split <;> omega
    have e1 : fwR o w n (n / 8 * 8 + o) = nI (D (n / 8 * 8 + o)) := by
      rw [ih _ (by omega)]
      split
      · rw [col]
      · rfl
    have e2 : fwR o w n (8 * o + n % 8) = nI (D (8 * o + n % 8)) := by
      rw [ih _ (by omega)]
      split
      · rw [row]
      · rfl
    by_cases c : j = n
    · subst c
      have e3 : fwR o w j j = nI (D j) := by rw [ih j hj, if_neg (by omega)]
      have b1 := hD.1 (j / 8 * 8 + o) (by omega)
      have b2 := hD.1 (8 * o + j % 8) (by omega)
      have b3 := hD.1 j hj
      rw [if_pos rfl, e1, e2, e3, nI_add, if_pos (show j < j + 1 by omega)]
      unfold nwE
      by_cases c2 : D (j / 8 * 8 + o) + D (8 * o + j % 8) < D j
      · rw [if_pos c2, if_pos (nI_lt c2 (by omega))]
      · rw [if_neg c2, if_neg (q_nl (by omega) (by omega))]
    · rw [if_neg c, ih j hj]
      by_cases c2 : j < n
      · rw [if_pos c2, if_pos (by omega)]
      · rw [if_neg c2, if_neg (by omega)]
theorem fwB_nw {w : Nat → Int32} {D : Nat → Nat} (hD : nwOk D) (hw : ∀ k, k < 64 → w k = nI (D k)) : ∀ n, n ≤ 8 → ∀ j, j < 64 → fwB w n j = nI (nwB D n j)
  | 0, _, j, hj => hw j hj
  | n + 1, hn, j, hj => by
    have ih := fwB_nw hD hw n (by omega)
    show fwR n (fwB w n) 64 j = nI (nwE n (nwB D n) j)
    rw [fwR_nw (by omega) (nwB_ok hD n) ih 64 (by omega) j hj, if_pos hj]
/-- no detour over c is shorter -/
def triC (D : Nat → Nat) (c : Nat) : Prop := ∀ a, a < 8 → ∀ b, b < 8 → D (8 * a + b) ≤ D (8 * a + c) + D (8 * c + b)
theorem nwE_at {D : Nat → Nat} {o a b : Nat} (ha : a < 8) (hb : b < 8) : nwE o D (8 * a + b) = if D (8 * a + o) + D (8 * o + b) < D (8 * a + b) then D (8 * a + o) + D (8 * o + b) else D (8 * a + b) := by
  unfold nwE
  rw [show (8 * a + b) / 8 * 8 + o = 8 * a + o by omega, show 8 * o + (8 * a + b) % 8 = 8 * o + b by omega]
theorem tri_E {D : Nat → Nat} {m : Nat} (hm : m < 8) (hD : nwOk D) (h : ∀ c, c < m → triC D c) : ∀ c, c < m + 1 → triC (nwE m D) c := by
  intro c hc a ha b hb
  rw [nwE_at ha hb, nwE_at ha (show c < 8 by omega), nwE_at (show c < 8 by omega) hb]
  have h9 := hD.2 m hm
  rw [show 9 * m = 8 * m + m by omega] at h9
  by_cases e : c = m
  · subst e
    rw [h9]
    repeat' split
    all_goals omega
  · have hcm := h c (by omega)
    have t1 := hcm a ha b hb
    have t2 := hcm m hm b hb
    have t3 := hcm a ha m hm
    repeat' split
    all_goals omega
theorem tri_B {D : Nat → Nat} (hD : nwOk D) : ∀ m, m ≤ 8 → ∀ c, c < m → triC (nwB D m) c
  | 0, _, c, hc => by omega
  | m + 1, hm, c, hc => tri_E (by omega) (nwB_ok hD m) (tri_B hD m (by omega)) c hc
def DW (μ : pp_M) : Nat → Nat := nwB (nw0 (μ.1 45)) 8
theorem nw0_nwOk (hI : Inv μ) : nwOk (nw0 (μ.1 45)) := ⟨fun k hk => (nw0_ok hI.2.2.1.1 hk).2.1, fun a ha => (nw0_ok hI.2.2.1.1 (show 9 * a < 64 by omega)).2.2 (by omega)⟩
theorem DW_ok (hI : Inv μ) : nwOk (DW μ) ∧ (∀ k, k < 64 → fw (μ.1 45) k = nI (DW μ k)) ∧ ∀ c, c < 8 → triC (DW μ) c :=
  ⟨nwB_ok (nw0_nwOk hI) 8, fun k hk => fwB_nw (nw0_nwOk hI) (fun k hk => (nw0_ok hI.2.2.1.1 hk).1) 8 (by omega) k hk, tri_B (nw0_nwOk hI) 8 (by omega)⟩
theorem DW_fr (h : fr sM μ ν) : DW ν = DW μ := by
  unfold DW
  rw [show ν.1 45 = μ.1 45 from funext fun i => (h 45 i (by unfold sM; omega)).1]
/-- the hours of a row from a place to HOME -/
def hrN (D : Nat → Nat) : Nat → List Nat → Nat
  | a, [] => D (8 * a)
  | a, f :: fs => D (8 * a + f) + hrN D f fs
theorem hrN_bd {D : Nat → Nat} (hD : nwOk D) : ∀ (fs : List Nat) (a : Nat), a < 8 → (∀ g ∈ fs, g < 8) → hrN D a fs ≤ 1000 * (fs.length + 1)
  | [], a, ha, _ => by
    have := hD.1 (8 * a) (by omega)
    show D (8 * a) ≤ 1000 * (0 + 1)
    omega
  | f :: fs, a, ha, hf => by
    have hf8 := hf f (List.mem_cons_self ..)
    have := hrN_bd hD fs f hf8 (fun g hg => hf g (List.mem_cons_of_mem _ hg))
    have h2 := hD.1 (8 * a + f) (by omega)
    show D (8 * a + f) + hrN D f fs ≤ 1000 * (fs.length + 1 + 1)
    omega
theorem k_hO8 {D : Nat → Nat} (hw : ∀ k, k < 64 → σ.1 8 k = nI (D k)) {tk o nn N : Nat} (hN : N ≤ 7) (hnn : N ≤ nn) (hn2 : nn < 2 ^ 31) : ∀ (q : List Nat) (i n a acc : Nat), i + q.length = N → q.length < n → a < 8 → (∀ j, j < q.length → σ.1 tk (o + (i + j)) = nI (q.getD j 0)) → (∀ g ∈ q, g < 8) → f_X2_hoursOf_8 n σ tk o nn (nI N) (nI acc) (nI a) (nI i) = some (nI (acc + hrN D a q), σ) := by
  intro q
  induction q with
  | nil =>
    intro i n a acc hi hn ha hq hf
    rw [List.length_nil] at hi hn
    obtain ⟨n, rfl⟩ : ∃ n', n = n' + 1 := ⟨n - 1, by omega⟩
    show f_X2_hoursOf_8_B (f_X2_hoursOf_8 n) _ _ _ _ _ _ _ _ = _
    unfold f_X2_hoursOf_8_B hrN
    have i1 : pp_ix (nI a) 8 := q_ix (by omega) (by omega)
    rw [if_neg (q_nl (by omega) (by omega)), if_pos i1, q_cl (k := a) (by omega), show a * 8 + 0 = 8 * a by omega, hw _ (by omega), nI_add]
  | cons f q ih =>
    intro i n a acc hi hn ha hq hf
    rw [List.length_cons] at hi hn
    obtain ⟨n, rfl⟩ : ∃ n', n = n' + 1 := ⟨n - 1, by omega⟩
    have hf8 := hf f (List.mem_cons_self ..)
    have h0 := hq 0 (by rw [List.length_cons]; omega)
    rw [Nat.add_zero] at h0
    have h0' : σ.1 tk (o + i) = nI f := h0
    have ih' := ih (i + 1) n f (acc + D (8 * a + f)) (by omega) (by omega) hf8 (fun j hj => by
      have := hq (j + 1) (by rw [List.length_cons]; omega)
      rw [show i + (j + 1) = i + 1 + j by omega] at this
      exact this) (fun g hg => hf g (List.mem_cons_of_mem _ hg))
    show f_X2_hoursOf_8_B (f_X2_hoursOf_8 n) _ _ _ _ _ _ _ _ = _
    unfold f_X2_hoursOf_8_B
    have i1 : pp_ix (nI a) 8 := q_ix (by omega) (by omega)
    have i2 : pp_ix (nI i) nn := q_ix (by omega) hn2
    have i3 : pp_ix (nI f) 8 := q_ix (by omega) (by omega)
    rw [if_pos (nI_lt (by omega) (by omega)), if_pos i1, if_pos i2, q_cl (k := i) (by omega), h0', if_pos i3, q_cl (k := a) (by omega), q_cl (k := f) (by omega), show a * 8 + f = 8 * a + f by omega, hw _ (by omega), nI_add, nI_1, ih']
    show some (nI (acc + D (8 * a + f) + hrN D f q), σ) = some (nI (acc + (D (8 * a + f) + hrN D f q)), σ)
    rw [Nat.add_assoc]
theorem m_hF7 {D : Nat → Nat} (hw : ∀ k, k < 64 → ν.1 46 k = nI (D k)) {N : Nat} (hN : N ≤ 7) (h22 : ν.1 40 22 = nI N) : ∀ (q : List Nat) (i n a acc : Nat), i + q.length = N → q.length < n → a < 8 → (∀ j, j < q.length → ν.1 55 (i + j) = nI (q.getD j 0)) → (∀ g ∈ q, g < 8) → f_X9_hoursFrom_7 n ν (nI acc) (nI a) (nI i) = some (nI (acc + hrN D a q), ν) := by
  intro q
  induction q with
  | nil =>
    intro i n a acc hi hn ha hq hf
    rw [List.length_nil] at hi hn
    obtain ⟨n, rfl⟩ : ∃ n', n = n' + 1 := ⟨n - 1, by omega⟩
    show f_X9_hoursFrom_7_B (f_X9_hoursFrom_7 n) _ _ _ _ = _
    unfold f_X9_hoursFrom_7_B hrN
    have i1 : pp_ix (nI (8 * a)) 64 := q_ix (by omega) (by omega)
    rw [h22, if_neg (q_nl (by omega) (by omega)), c8I, pk_mul, if_pos i1, q_cl (k := 8 * a) (by omega), hw _ (by omega), nI_add]
  | cons f q ih =>
    intro i n a acc hi hn ha hq hf
    rw [List.length_cons] at hi hn
    obtain ⟨n, rfl⟩ : ∃ n', n = n' + 1 := ⟨n - 1, by omega⟩
    have hf8 := hf f (List.mem_cons_self ..)
    have h0 := hq 0 (by rw [List.length_cons]; omega)
    rw [Nat.add_zero] at h0
    have h0' : ν.1 55 i = nI f := h0
    have ih' := ih (i + 1) n f (acc + D (8 * a + f)) (by omega) (by omega) hf8 (fun j hj => by
      have := hq (j + 1) (by rw [List.length_cons]; omega)
      rw [show i + (j + 1) = i + 1 + j by omega] at this
      exact this) (fun g hg => hf g (List.mem_cons_of_mem _ hg))
    show f_X9_hoursFrom_7_B (f_X9_hoursFrom_7 n) _ _ _ _ = _
    unfold f_X9_hoursFrom_7_B
    have i2 : pp_ix (nI i) 7 := q_ix (by omega) (by omega)
    have i3 : pp_ix (nI (8 * a + f)) 64 := q_ix (by omega) (by omega)
    rw [h22, if_pos (nI_lt (by omega) (by omega)), if_pos i2, q_cl (k := i) (by omega), h0', c8I, pk_mul, nI_add, if_pos i3, q_cl (k := 8 * a + f) (by omega), hw _ (by omega), nI_add, nI_1, ih']
    show some (nI (acc + D (8 * a + f) + hrN D f q), ν) = some (nI (acc + (D (8 * a + f) + hrN D f q)), ν)
    rw [Nat.add_assoc]
def HR (μ : pp_M) : Nat := hrN (DW μ) 0 (rowL μ)
theorem getD_all {L : List Nat} {x : Nat → Int32} {o : Nat} (h : isRow x o L) : ∀ j, j < L.length → x (o + (0 + j)) = nI (L.getD j 0) := fun j hj => by rw [Nat.zero_add]; exact h j hj
theorem k_hours (hB : Base σ μ) (hI : Inv μ) (hw : ∀ i, i < 64 → σ.1 8 i = fw (μ.1 45) i) : f_X8_hours σ = some (nI (HR μ), σ) := by
  have hl := (rowL_len hI).1
  have h := k_hO8 (σ := σ) (D := DW μ) (fun k hk => by rw [hw k hk, (DW_ok hI).2.1 k hk]) (tk := 34) (o := 0) (nn := 7) hl hl (by omega) (rowL μ) 0 100000 0 0 (by omega) (by omega) (by omega) (getD_all (rowL_K hB hI).1) (rowL_mem hI)
  rw [Nat.zero_add] at h
  unfold f_X8_hours f_X2_hoursOf
  rw [(rowL_K hB hI).2, show f_X2_hoursOf_8 100000 σ 34 0 7 (nI (rowL μ).length) 0 0 0 = _ from h, Option.bind_some]
  rfl
theorem m_hoursFrom (hI : Inv μ) {L : List Nat} (hL : L.length ≤ 7) (ha : ∀ g ∈ L, g < 8) (hw : ∀ k, k < 64 → ν.1 46 k = nI (DW μ k)) (h22 : ν.1 40 22 = nI L.length) (hR : isRow (ν.1 55) 0 L) {a : Nat} (ha8 : a < 8) : f_X9_hoursFrom ν (nI a) = some (nI (hrN (DW μ) a L), ν) := by
  have h := m_hF7 (ν := ν) (D := DW μ) hw hL h22 L 0 100000 a 0 (by omega) (by omega) ha8 (fun j hj => by
    have := getD_all hR j hj
    rw [Nat.zero_add] at this
    exact this) ha
  rw [Nat.zero_add] at h
  exact h
theorem m_hoursNow (hI : Inv μ) (hf : fr sM μ ν) : ∃ ν', f_X9_hoursNow ν = some (nI (HR μ), ν') ∧ fr sM μ ν' := by
  obtain ⟨w, g1, g2⟩ := m_laysWays ν
  have h1 : fr sM ν (ppF ν 46 w) := pF_fr (fun i => Or.inl rfl)
  have f1 := fr_tr hf h1
  obtain ⟨ν', d1, d2, d3, d4, d5⟩ := m_looks (inv_fr hI f1)
  rw [row_fr f1] at d3 d4
  have hl := (rowL_len hI).1
  have hF := m_hoursFrom (ν := ν') hI hl (rowL_mem hI) (fun k hk => by
    rw [(d2 46 k (by unfold Lk; omega)).1, pF_rd, g2 k hk, show ν.1 45 = μ.1 45 from funext fun i => (hf 45 i (by unfold sM; omega)).1, (DW_ok hI).2.1 k hk]) d3 d4 (show 0 < 8 by omega)
  refine ⟨ν', ?_, fr_tr f1 (Lk_sM d2)⟩
  unfold f_X9_hoursNow
  rw [g1, Option.bind_some, d1, Option.bind_some, show f_X9_hoursFrom ν' 0 = _ from hF, Option.bind_some]
  rfl
theorem h_hours (hCa : CaOk Ca) (h : Rel Ca σ μ) : ∃ (r : Int32) (σ' μ' : pp_M), f_X8_hours σ = some (r, σ') ∧ f_X9_hours μ = some (r, μ') ∧ Rel Ca σ' μ' := by
  obtain ⟨ν, g1, g2⟩ := m_hoursNow h.2.1 (fr_rf (σ := μ))
  unfold f_X9_hours
  rw [k_hours h.1 h.2.1 h.2.2.1, g1, Option.bind_some]
  exact ⟨_, _, _, rfl, rfl, rel_scratch hCa h fr_rf g2⟩
/-- the weight of the pack -/
def PWt (μ : pp_M) : Int32 := wS (μ.1 54) (μ.1 42) 6
theorem k_packW (hB : Base σ μ) : f_X1_weightOf σ 35 0 6 = some (PWt μ, σ) := by
  rw [k_weightOf 35 0 6 (by omega) (by omega)]
  unfold PWt
  rw [wS_cong (p' := μ.1 54) (w' := μ.1 42) 6 (fun i hi => ⟨(congrArg (σ.1 35) (Nat.zero_add i)).trans (hB.2.2.2.2.2.2.2.2.2.2.1 i hi), hB.1 i hi 1 (by omega)⟩)]
theorem PWt_fr (h : fr sM μ ν) : PWt ν = PWt μ := by
  unfold PWt
  exact wS_cong 6 (fun i hi => ⟨(h 54 i (by unfold sM; omega)).1, (h 42 i (by unfold sM; omega)).1⟩)
def JD (μ : pp_M) : Int32 := if μ.1 40 7 < PWt μ then 1 else if μ.1 40 6 < nI (HR μ) then 2 else 0
theorem k_judged (hB : Base σ μ) (hI : Inv μ) (hw : ∀ i, i < 64 → σ.1 8 i = fw (μ.1 45) i) : f_X8_judged σ = some (JD μ, σ) := by
  unfold f_X8_judged JD
  rw [k_packW hB, Option.bind_some, hB.2.2.2.2.2.2.2.2.2.2.2.2.1]
  by_cases c : μ.1 40 7 < PWt μ
  · rw [if_pos c, if_pos c]
  · rw [if_neg c, if_neg c, k_hours hB hI hw, Option.bind_some, hB.2.2.2.2.2.2.2.2.2.2.2.1]
    by_cases c2 : μ.1 40 6 < nI (HR μ)
    · rw [if_pos c2, if_pos c2]
    · rw [if_neg c2, if_neg c2]
theorem m_judgedNow (hI : Inv μ) (hf : fr sM μ ν) : ∃ ν', f_X9_judgedNow ν = some (JD μ, ν') ∧ fr sM μ ν' := by
  unfold f_X9_judgedNow JD
  rw [m_packWeight, Option.bind_some, show wS (ν.1 54) (ν.1 42) 6 = PWt μ from PWt_fr hf, (hf 40 7 (by unfold sM; omega)).1]
  by_cases c : μ.1 40 7 < PWt μ
  · rw [if_pos c, if_pos c]; exact ⟨ν, rfl, hf⟩
  · obtain ⟨ν', g1, g2⟩ := m_hoursNow hI hf
    rw [if_neg c, if_neg c, g1, Option.bind_some, (g2 40 6 (by unfold sM; omega)).1]
    by_cases c2 : μ.1 40 6 < nI (HR μ)
    · rw [if_pos c2, if_pos c2]; exact ⟨ν', rfl, g2⟩
    · rw [if_neg c2, if_neg c2]; exact ⟨ν', rfl, g2⟩
theorem h_judged (hCa : CaOk Ca) (h : Rel Ca σ μ) : ∃ (r : Int32) (σ' μ' : pp_M), f_X8_judged σ = some (r, σ') ∧ f_X9_judged μ = some (r, μ') ∧ Rel Ca σ' μ' := by
  obtain ⟨ν, g1, g2⟩ := m_judgedNow h.2.1 (fr_rf (σ := μ))
  unfold f_X9_judged
  rw [k_judged h.1 h.2.1 h.2.2.1, g1, Option.bind_some]
  exact ⟨_, _, _, rfl, rfl, rel_scratch hCa h fr_rf g2⟩
end HOURS
