/-! codes, kept searches, the open farms -/
section DECODE
variable {Ca : pp_M → pp_M → Prop} {σ μ ν : pp_M} {V : List Nat → Int} {C : List Nat → Prop}
theorem code8_div : ∀ (R : List Nat) (j : Nat), (∀ f ∈ R, f ≤ 7) → j < R.length → code8 R / 8 ^ j % 8 = R.getD (R.length - 1 - j) 0
  | [], j, _, h => by cases h
  | f :: fs, j, hf, hj => by
    have h7 := hf f (List.mem_cons_self ..)
    have hl := code8_lt fs (fun g hg => hf g (List.mem_cons_of_mem _ hg))
    rw [List.length_cons] at hj ⊢
    show (f * 8 ^ fs.length + code8 fs) / 8 ^ j % 8 = _
    by_cases c : j = fs.length
    · subst c
      rw [show fs.length + 1 - 1 - fs.length = 0 by omega, Nat.mul_comm, Nat.mul_add_div (Nat.pow_pos (by omega)), Nat.div_eq_of_lt hl, Nat.add_zero]
      show f % 8 = f
      omega
    · have ih := code8_div fs j (fun g hg => hf g (List.mem_cons_of_mem _ hg)) (by omega)
      have e : 8 ^ fs.length = 8 ^ j * (8 * 8 ^ (fs.length - j - 1)) := by
        rw [show (8 : Nat) * 8 ^ (fs.length - j - 1) = 8 ^ (fs.length - j) by rw [Nat.mul_comm, ← Nat.pow_succ]; congr 1; omega, ← Nat.pow_add]
        congr 1
        omega
      have e2 : f * 8 ^ fs.length = 8 ^ j * (8 * (f * 8 ^ (fs.length - j - 1))) := by
        rw [e, Nat.mul_left_comm, Nat.mul_left_comm f 8]
      rw [e2, Nat.mul_add_div (Nat.pow_pos (by omega)), Nat.mul_add_mod, ih, show fs.length + 1 - 1 - j = fs.length - 1 - j + 1 by omega]
      rfl
theorem code8_pos : ∀ (R : List Nat) (j : Nat), (∀ f ∈ R, 1 ≤ f ∧ f ≤ 7) → (0 < code8 R / 8 ^ j ↔ j < R.length)
  | [], j, _ => by
    show 0 < 0 / 8 ^ j ↔ j < 0
    rw [Nat.zero_div]
    omega
  | f :: fs, j, hf => by
    have h7 := hf f (List.mem_cons_self ..)
    have hl := code8_lt (f :: fs) (fun g hg => (hf g hg).2)
    rw [List.length_cons] at hl ⊢
    constructor
    · intro h
      apply Nat.lt_of_not_le
      intro hj
      have : (8 : Nat) ^ (fs.length + 1) ≤ 8 ^ j := Nat.pow_le_pow_right (by omega) hj
      rw [Nat.div_eq_of_lt (by omega)] at h
      omega
    · intro h
      have h1 : (8 : Nat) ^ j ≤ 8 ^ fs.length := Nat.pow_le_pow_right (by omega) (by omega)
      have h2 : 8 ^ fs.length ≤ f * 8 ^ fs.length := Nat.le_mul_of_pos_left _ (by omega)
      have h3 : 8 ^ j ≤ code8 (f :: fs) := by show 8 ^ j ≤ f * 8 ^ fs.length + code8 fs; omega
      exact Nat.div_pos h3 (Nat.pow_pos (by omega))
theorem shr8 {c j : Nat} (hc : c < 2 ^ 31) (hj : j ≤ 5) : nI c >>> (((3 : Int32) * nI j) &&& 31) = nI (c / 8 ^ j) := by
  rw [c3I, pk_mul, pk_shrN hc _ (3 * j) (sh31 (3 * j) (by omega)), show (8 : Nat) ^ j = 2 ^ (3 * j) by rw [Nat.pow_mul]]
theorem k_fO2 {R : List Nat} (hR : R.length ≤ 5) (hf : ∀ f ∈ R, 1 ≤ f ∧ f ≤ 7) : ∀ m j n, j + m = R.length → m < n → f_X8_farmsOf_2 n σ (nI (code8 R)) (nI j) = some (nI R.length, σ) := by
  have hcl := code8_31 hR (fun f h => (hf f h).2)
  intro m
  induction m with
  | zero =>
    intro j n hj hn
    obtain ⟨n, rfl⟩ : ∃ n', n = n' + 1 := ⟨n - 1, by omega⟩
    have : j = R.length := by omega
    subst this
    have hd : code8 R / 8 ^ R.length = 0 := Nat.div_eq_of_lt (code8_lt R (fun f h => (hf f h).2))
    show f_X8_farmsOf_2_B (f_X8_farmsOf_2 n) _ _ _ = _
    unfold f_X8_farmsOf_2_B
    rw [shr8 (by omega) hR, hd, if_neg (show ¬ (0 : Int32) < nI 0 by decide)]
    split <;> rfl
  | succ m ih =>
    intro j n hj hn
    obtain ⟨n, rfl⟩ : ∃ n', n = n' + 1 := ⟨n - 1, by omega⟩
    have hd := (code8_pos R j hf).mpr (by omega)
    have hdl := Nat.div_le_self (code8 R) (8 ^ j)
    show f_X8_farmsOf_2_B (f_X8_farmsOf_2 n) _ _ _ = _
    unfold f_X8_farmsOf_2_B
    rw [if_pos (show nI j < (5 : Int32) from nI_lt (b := 5) (by omega) (by omega)), shr8 (by omega) (by omega), if_pos (show (0 : Int32) < nI (code8 R / 8 ^ j) from nI_lt (a := 0) hd (by omega)), nI_1]
    exact ih (j + 1) n (by omega) (by omega)
theorem k_farmsOf {R : List Nat} (hR : R.length ≤ 5) (hf : ∀ f ∈ R, 1 ≤ f ∧ f ≤ 7) : f_X8_farmsOf σ (nI (code8 R)) = some (nI R.length, σ) := k_fO2 hR hf R.length 0 100000 (by omega) (by omega)
theorem k_farmOf {R : List Nat} {i : Nat} (hR : R.length ≤ 5) (hf : ∀ f ∈ R, 1 ≤ f ∧ f ≤ 7) (hi : i < R.length) : f_X8_farmOf σ (nI (code8 R)) (nI (R.length - 1 - i)) = some (nI (R.getD i 0), σ) := by
  have hcl := code8_31 hR (fun f h => (hf f h).2)
  have hdl := Nat.div_le_self (code8 R) (8 ^ (R.length - 1 - i))
  unfold f_X8_farmOf
  rw [shr8 (by omega) (by omega), pk_andN (by omega) 3 (by decide), show (2 : Nat) ^ 3 = 8 from rfl, code8_div R _ (fun f h => (hf f h).2) (by omega), show R.length - 1 - (R.length - 1 - i) = i by omega]
theorem code8_inj : ∀ (R Q : List Nat), (∀ f ∈ R, 1 ≤ f ∧ f ≤ 7) → (∀ f ∈ Q, 1 ≤ f ∧ f ≤ 7) → code8 R = code8 Q → R = Q := by
  intro R Q hR hQ h
  have hl : R.length = Q.length := by
    have h1 := code8_pos R
    have h2 := code8_pos Q
    rcases Nat.lt_trichotomy R.length Q.length with c | c | c
    · have := (h2 R.length hQ).mpr c
      rw [← h] at this
      have := (h1 R.length hR).mp this
      omega
    · exact c
    · have := (h1 Q.length hR).mpr c
      rw [h] at this
      have := (h2 Q.length hQ).mp this
      omega
  apply List.ext_getElem hl
  intro i h1 h2
  have e1 := code8_div R (R.length - 1 - i) (fun f hf => (hR f hf).2) (by omega)
  have e2 := code8_div Q (Q.length - 1 - i) (fun f hf => (hQ f hf).2) (by omega)
  rw [show R.length - 1 - (R.length - 1 - i) = i by omega] at e1
  rw [show Q.length - 1 - (Q.length - 1 - i) = i by omega] at e2
  rw [h, hl, e2] at e1
  rw [List.getD_eq_getElem?_getD, List.getD_eq_getElem?_getD, List.getElem?_eq_getElem h1, List.getElem?_eq_getElem h2] at e1
  exact e1.symm
theorem best_uniq {R Q : List Nat} (hC : rOk V C) (h1 : bestIn V C R) (h2 : bestIn V C Q) : R = Q := by
  have a := h1.2 Q h2.1
  have b := h2.2 R h1.1
  exact code8_inj R Q (hC R h1.1).2.1 (hC Q h2.1).2.1 (by omega)
/-- the same data for searches -/
def SD (μ ν : pp_M) : Prop := ∀ t i, ((41 ≤ t ∧ t ≤ 45) ∨ t = 47 ∨ t = 48 ∨ (t = 40 ∧ (i = 6 ∨ i = 7 ∨ i = 8))) → ν.1 t i = μ.1 t i
/-- a memory with the data of one and the rest of another: scratch of the first -/
theorem wv_sd (h : SD μ ν) : wv ν = wv μ ∧ DW ν = DW μ ∧ Wt ν = Wt μ ∧ Lm ν = Lm μ ∧ Op ν = Op μ ∧ coI ν = coI μ ∧ ν.1 40 6 = μ.1 40 6 := by
  have t41 : ν.1 41 = μ.1 41 := funext fun i => h 41 i (by omega)
  have t42 : ν.1 42 = μ.1 42 := funext fun i => h 42 i (by omega)
  have t43 : ν.1 43 = μ.1 43 := funext fun i => h 43 i (by omega)
  have t44 : ν.1 44 = μ.1 44 := funext fun i => h 44 i (by omega)
  have t45 : ν.1 45 = μ.1 45 := funext fun i => h 45 i (by omega)
  have t47 : ν.1 47 = μ.1 47 := funext fun i => h 47 i (by omega)
  have t48 : ν.1 48 = μ.1 48 := funext fun i => h 48 i (by omega)
  have ch : chI ν = chI μ := by funext f t l; unfold chI; rw [t47, t48]
  have pr : prI ν = prI μ := by funext t l; unfold prI; rw [t44]
  have cs : csI ν = csI μ := by funext t; unfold csI; rw [t41, t43]
  have av : avI ν = avI μ := by funext W n f t k l; unfold avI; rw [ch, pr]
  have wv' : ∀ (t : Nat) (fs : List Nat) (k : Nat), wv ν t fs k = wv μ t fs k := by
    intro t fs
    induction fs with
    | nil => intro k; show (k : Int) * csI ν t = k * csI μ t; rw [cs]
    | cons f fs ih =>
      intro k
      cases k with
      | zero => rfl
      | succ k =>
        show (bestA (avI ν (wv ν t fs) fs.length f t (k + 1))).1 = (bestA (avI μ (wv μ t fs) fs.length f t (k + 1))).1
        rw [av, show wv ν t fs = wv μ t fs from funext ih]
  refine ⟨funext fun t => funext fun fs => funext fun k => wv' t fs k, ?_, ?_, ?_, ?_, ?_, h 40 6 (by omega)⟩
  · unfold DW; rw [t45]
  · funext t; unfold Wt; rw [t42]
  · unfold Lm; rw [h 40 7 (by omega)]
  · unfold Op; rw [h 40 8 (by omega)]
  · funext t; unfold coI; rw [t41]
theorem GS_sd (h : SD μ ν) : GS ν = GS μ := by
  obtain ⟨h1, h2, h3, h4, h5, h6, h7⟩ := wv_sd h
  funext fs t k
  unfold GS gn
  rw [h1, h6]
theorem Vr_sd (h : SD μ ν) : Vr ν = Vr μ := by
  obtain ⟨h1, h2, h3, h4, h5, h6, h7⟩ := wv_sd h
  funext R
  unfold Vr
  rw [GS_sd h, h3, h4, show pkS ν R = pkS μ R from funext fun t => by unfold pkS; rw [GS_sd h]]
theorem OKr_sd (h : SD μ ν) : OKr ν = OKr μ := by
  obtain ⟨h1, h2, h3, h4, h5, h6, h7⟩ := wv_sd h
  funext Q
  unfold OKr
  rw [h2, h5, h7]
theorem CaD_ok : CaOk CaD := fun σ σ' μ μ' h1 h2 h => by
  have sd : SD μ μ' := fun t i q => (h2 t i (by unfold nM; omega)).1
  unfold CaD at h ⊢
  rw [Vr_sd sd, OKr_sd sd]
  exact TBL_fr h (fun i => ⟨(h1 37 i (by unfold nK; omega)).2, (h1 38 i (by unfold nK; omega)).1⟩)
/-- the open farms in their order -/
def fLb (o : Nat) : Nat → List Nat
  | 0 => []
  | b + 1 => if o.testBit b then fLb o b ++ [b + 1] else fLb o b
def fL (o : Nat) : List Nat := fLb o 7
theorem fLb_mem (o : Nat) : ∀ b f, f ∈ fLb o b ↔ 1 ≤ f ∧ f ≤ b ∧ o.testBit (f - 1) = true
  | 0, f => ⟨fun h => (by cases h), fun h => by omega⟩
  | b + 1, f => by
    have ih := fLb_mem o b f
    unfold fLb
    by_cases c : o.testBit b = true
    · rw [if_pos c, List.mem_append, ih, List.mem_singleton]
      constructor
      · rintro (h | h)
        · exact ⟨h.1, by omega, h.2.2⟩
        · subst h; exact ⟨by omega, Nat.le_refl _, by rw [Nat.add_sub_cancel]; exact c⟩
      · intro h
        by_cases e : f = b + 1
        · exact Or.inr e
        · exact Or.inl ⟨h.1, by omega, h.2.2⟩
    · rw [if_neg c, ih]
      constructor
      · intro h; exact ⟨h.1, by omega, h.2.2⟩
      · intro h
        by_cases e : f = b + 1
        · subst e; rw [Nat.add_sub_cancel] at h; exact absurd h.2.2 c
        · exact ⟨h.1, by omega, h.2.2⟩
theorem fLb_sorted (o : Nat) : ∀ b, (fLb o b).Pairwise (· < ·)
  | 0 => List.Pairwise.nil
  | b + 1 => by
    unfold fLb
    by_cases c : o.testBit b = true
    · rw [if_pos c, List.pairwise_append]
      refine ⟨fLb_sorted o b, List.pairwise_singleton _ _, fun x hx y hy => ?_⟩
      rw [List.mem_singleton] at hy
      have := (fLb_mem o b x).mp hx
      omega
    · rw [if_neg c]; exact fLb_sorted o b
theorem fL_lt {o i j : Nat} (hij : i < j) (hj : j < (fL o).length) : (fL o).getD i 0 < (fL o).getD j 0 := by
  have h := List.pairwise_iff_getElem.mp (fLb_sorted o 7) i j (by have : (fL o).length = (fLb o 7).length := rfl; omega) hj hij
  rw [List.getD_eq_getElem?_getD, List.getD_eq_getElem?_getD, List.getElem?_eq_getElem (show i < (fL o).length by omega), List.getElem?_eq_getElem hj]
  exact h
theorem fL_at {o i : Nat} (hi : i < (fL o).length) : 1 ≤ (fL o).getD i 0 ∧ (fL o).getD i 0 ≤ 7 ∧ o.testBit ((fL o).getD i 0 - 1) = true := (fLb_mem o 7 _).mp (getD_mem hi)
theorem bc_eq (σ ρ : pp_M) (a : Int32) : f_J6_bitCount_0f7a4 σ a = some (((f_J6_bitCount_0f7a4 ρ a).getD (0, ρ)).1, σ) := rfl
theorem bitc7 : ∀ o, o < 128 → ((f_J6_bitCount_0f7a4 (fun _ _ => 0, fun _ _ => 0) (nI o)).getD (0, (fun _ _ => 0, fun _ _ => 0))).1 = nI (fL o).length := by decide +kernel
theorem fL_len : ∀ o, o < 128 → (fL o).length ≤ 7 := by decide +kernel
theorem k_tooMany (hB : Base σ μ) (hI : Inv μ) : f_X8_tooManyOpen σ = some (if 5 < (fL (Op μ)).length then 1 else 0, σ) := by
  have e13 : σ.1 0 13 = nI (Op μ) := by rw [hB.2.2.2.2.2.2.2.2.2.2.2.2.2, (Op_ok hI).1]
  have hl := fL_len (Op μ) (Op_ok hI).2
  unfold f_X8_tooManyOpen
  rw [e13, bc_eq σ (fun _ _ => 0, fun _ _ => 0), bitc7 _ (Op_ok hI).2, Option.bind_some]
  by_cases c : 5 < (fL (Op μ)).length
  · rw [if_pos c, if_pos (show (5 : Int32) < nI (fL (Op μ)).length from nI_lt (a := 5) c (by omega))]
  · rw [if_neg c, if_neg (show ¬ (5 : Int32) < nI (fL (Op μ)).length from q_nl (a := 5) (by omega) (by omega))]
end DECODE
