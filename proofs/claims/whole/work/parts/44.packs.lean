/-! the reference's best pack -/
section PACKS
variable {Ca : pp_M → pp_M → Prop} {σ μ ν : pp_M} {G : Nat → Nat → Int} {W pk tp : Nat → Nat}
/-- the reference looks at the row fs -/
def GM (ν μ : pp_M) (fs : List Nat) : Prop := (∀ t, t < 6 → ∀ k, k < 5 → ν.2 56 (5 * (8 * t + 0) + k) = lI (wv μ t fs k)) ∧ ν.1 40 22 = nI fs.length ∧ fr sM μ ν ∧ fs.length ≤ 7 ∧ ∀ g ∈ fs, g < 8
/-- what is written behind the look -/
def NP (t i : Nat) : Prop := (t = 40 ∧ (i = 28 ∨ i = 30)) ∨ (58 ≤ t ∧ t ≤ 60) ∨ t = 65
theorem NP_sM {μ μ' : pp_M} (h : fr NP μ μ') : fr sM μ μ' := fr_mono h (fun t i q => by unfold NP at q; unfold sM; omega)
theorem GM_fr {fs : List Nat} {ν ν' : pp_M} (h : GM ν μ fs) (hf : fr NP ν ν') : GM ν' μ fs := by
  refine ⟨fun t ht k hk => ?_, ?_, fr_tr h.2.2.1 (NP_sM hf), h.2.2.2⟩
  · rw [(hf 56 _ (by unfold NP; omega)).2]; exact h.1 t ht k hk
  · rw [(hf 40 22 (by unfold NP; omega)).1]; exact h.2.1
theorem gn_bd (hI : Inv μ) {fs : List Nat} (hr : fs.length ≤ 7) (ha : ∀ g ∈ fs, g < 8) {t k : Nat} (ht : t < 6) (hk : k < 5) : -1000000000000 ≤ gn μ fs t k ∧ gn μ fs t k ≤ 1000000000000 := by
  have h := GS_bd hI hr ha ht hk
  unfold GS at h
  have hp : (1 : Int) ≤ 16 ^ (7 - fs.length) := Int.pow_pos (by decide)
  generalize (16 : Int) ^ (7 - fs.length) = p at h hp
  generalize gn μ fs t k = x at h ⊢
  constructor
  · rcases Int.le_total 0 x with hx | hx
    · omega
    · have := Int.mul_le_mul_of_nonpos_left hx hp
      omega
  · rcases Int.le_total 0 x with hx | hx
    · have := Int.mul_le_mul_of_nonneg_left hp hx
      omega
    · omega
theorem m_gainOf (hI : Inv μ) {fs : List Nat} (h : GM ν μ fs) {t k : Nat} (ht : t < 6) (hk : k < 5) : f_X9_gainOf ν (nI t) (nI k) = some (lI (gn μ fs t k), ν) := by
  obtain ⟨h1, h2, h3, h4, h5⟩ := h
  unfold f_X9_gainOf f_X9_spot
  obtain ⟨c, hc, ec⟩ := q_of (x := μ.1 41 t) (n := 99) (co_bd hI ht).1 (co_bd hI ht).2
  have hkc : k * c ≤ 4 * 99 := Nat.mul_le_mul (by omega) hc
  have ec1 : ν.1 41 t = nI c := by rw [(h3 41 t (by unfold sM; omega)).1, ec]
  have ec2 : coI μ t = (c : Int) := by unfold coI; rw [ec, nI_toInt (by omega)]
  have e1 : (5 : Int32) * ((8 : Int32) * nI t + (0 : Int32)) + nI k = nI (5 * (8 * t + 0) + k) := by rw [c5I, c8I, pk_mul, show (0 : Int32) = nI 0 from rfl, nI_add, pk_mul, nI_add]
  have i1 : pp_ix (nI (5 * (8 * t + 0) + k)) 240 := q_ix (by omega) (by omega)
  have i2 : pp_ix (nI t) 6 := q_ix (by omega) (by omega)
  simp only [Option.bind_some, e1, if_pos i1, if_pos i2, h2, m_sixteen h4, q_cl (k := 5 * (8 * t + 0) + k) (show 5 * (8 * t + 0) + k < 2 ^ 31 by omega), q_cl (k := t) (show t < 2 ^ 31 by omega), h1 t ht k hk, ec1, pk_mul, lI_nI (show k * c < 2 ^ 31 by omega), lI_mul, lI_sub]
  unfold gn
  rw [ec2, Int.natCast_mul]
def hvW (W : Nat → Nat) (bt t k : Nat) : Nat := k * W t + (if t = bt ∧ 0 < k then 1000 else 0)
def ph (H : Nat → Nat → Nat) : Nat → List Nat → Nat
  | _, [] => 0
  | t, k :: ks => H t k + ph H (t + 1) ks
theorem ph_app (H : Nat → Nat → Nat) : ∀ (p : List Nat) (t k : Nat), ph H t (p ++ [k]) = ph H t p + H (t + p.length) k
  | [], t, k => by
    show H t k + 0 = 0 + H (t + 0) k
    rw [Nat.add_zero, Nat.zero_add, Nat.add_zero]
  | q :: p, t, k => by
    show H t q + ph H (t + 1) (p ++ [k]) = H t q + ph H (t + 1) p + H (t + (p.length + 1)) k
    rw [ph_app H p (t + 1) k, show t + 1 + p.length = t + (p.length + 1) by omega]
    omega
theorem ph_ok (W : Nat → Nat) (bt : Nat) : ∀ (p : List Nat) (t : Nat), pkF bt t p → ph (hvW W bt) t p = pw W t p
  | [], _, _ => rfl
  | k :: p, t, h => by
    have hk : ¬ (t = bt ∧ 0 < k) := fun q => by have := h.2.1 q.1; omega
    show hvW W bt t k + ph (hvW W bt) (t + 1) p = k * W t + pw W (t + 1) p
    rw [ph_ok W bt p (t + 1) h.2.2]
    unfold hvW
    rw [if_neg hk]
    omega
theorem ph_bad (W : Nat → Nat) (bt bt' : Nat) : ∀ (p : List Nat) (t : Nat), pkF bt' t p → ¬ pkF bt t p → 1000 ≤ ph (hvW W bt) t p
  | [], _, _, h => absurd trivial h
  | k :: p, t, h', h => by
    show 1000 ≤ hvW W bt t k + ph (hvW W bt) (t + 1) p
    by_cases c : t = bt ∧ 0 < k
    · unfold hvW
      rw [if_pos c]
      omega
    · have := ph_bad W bt bt' p (t + 1) h'.2.2 (fun q => h ⟨h'.1, fun e => by omega, q⟩)
      omega
theorem hvW_le {W : Nat → Nat} (bt : Nat) {t k : Nat} (h : k * W t ≤ 4 * 20) : hvW W bt t k ≤ 1080 := by
  unfold hvW
  by_cases c : t = bt ∧ 0 < k
  · rw [if_pos c]; omega
  · rw [if_neg c]; omega
theorem ph_bd (hW : ∀ t, t < 6 → 1 ≤ W t ∧ W t ≤ 20) (bt : Nat) : ∀ n c, n ≤ 6 → ph (hvW W bt) 0 (dgs n c) ≤ 1080 * n
  | 0, _, _ => Nat.le_refl _
  | n + 1, c, hn => by
    show ph (hvW W bt) 0 (dgs n (c / 5) ++ [c % 5]) ≤ _
    rw [ph_app, dgs_len, Nat.zero_add]
    have ih := ph_bd hW bt n (c / 5) (by omega)
    have : hvW W bt n (c % 5) ≤ 1080 := hvW_le bt (Nat.mul_le_mul (show c % 5 ≤ 4 by omega) (hW n (by omega)).2)
    omega
theorem pg_bd (hG : ∀ t, t < 6 → ∀ k, k < 5 → -1000000000000 ≤ G t k ∧ G t k ≤ 1000000000000) : ∀ (n c : Nat), n ≤ 6 → -(1000000000000 * (n : Int)) ≤ pg G 0 (dgs n c) ∧ pg G 0 (dgs n c) ≤ 1000000000000 * (n : Int)
  | 0, _, _ => ⟨Int.le_refl _, Int.le_refl _⟩
  | n + 1, c, hn => by
    have e : pg G 0 (dgs (n + 1) c) = pg G 0 (dgs n (c / 5)) + G n (c % 5) := by
      show pg G 0 (dgs n (c / 5) ++ [c % 5]) = _
      rw [pg_app, dgs_len, Nat.zero_add]
    rw [e]
    have ih := pg_bd hG n (c / 5) (by omega)
    have g := hG n (by omega) (c % 5) (by omega)
    generalize pg G 0 (dgs n (c / 5)) = x at ih ⊢
    generalize G n (c % 5) = y at g ⊢
    omega
def pkEnd (k11 : pp_M → Int32 → Int32 → Int32 → Option pp_M) (ν : pp_M) (a1 a2 a3 a5 : Int32) (a6 : Int64) : Option pp_M :=
  if ν.1 40 7 < a5 then f_X9_packs_178 k11 ν a1 a2 a3 else
  if ν.2 40 28 < a6 then f_X9_packs_135 k11 ν a1 a3 a5 a6 else
  if a6 = ν.2 40 28 then (if a5 < a2 then f_X9_packs_135 k11 ν a1 a3 a5 a6 else f_X9_packs_178 k11 ν a1 a2 a3) else f_X9_packs_178 k11 ν a1 a2 a3
theorem m_pk30 (hI : Inv μ) {fs : List Nat} (hM : GM ν μ fs) (k11 : pp_M → Int32 → Int32 → Int32 → Option pp_M) {bt : Nat} {wb a2 a3 : Int32} (hwb : ∀ t, t < 6 → (nI t = wb ↔ t = bt)) : ∀ c n left h g, c ≤ 6 → c < n → left < 15625 → h + 1080 * c ≤ 10000 → f_X9_packs_30 k11 n ν wb a2 a3 (nI left) (nI h) (lI g) (nI c + (-1 : Int32)) = pkEnd k11 ν wb a2 a3 (nI (h + ph (hvW (Wt μ) bt) 0 (dgs c left))) (lI (g + pg (gn μ fs) 0 (dgs c left))) := by
  have hWb : ∀ t, t < 6 → 1 ≤ Wt μ t ∧ Wt μ t ≤ 20 := fun t ht => (Wt_ok hI ht).2
  have hWe : ∀ t, t < 6 → ν.1 42 t = nI (Wt μ t) := fun t ht => by rw [(hM.2.2.1 42 t (by unfold sM; omega)).1, (Wt_ok hI ht).1]
  intro c
  induction c with
  | zero =>
    intro n left h g hc hn hl hh
    obtain ⟨n, rfl⟩ : ∃ n', n = n' + 1 := ⟨n - 1, by omega⟩
    show f_X9_packs_30_B k11 (f_X9_packs_30 k11 n) _ _ _ _ _ _ _ _ = _
    unfold f_X9_packs_30_B
    rw [if_pos (show nI 0 + (-1 : Int32) < 0 by decide)]
    show _ = pkEnd k11 ν wb a2 a3 (nI (h + 0)) (lI (g + 0))
    rw [Nat.add_zero, Int.add_zero]
    rfl
  | succ t ih =>
    intro n left h g hc hn hl hh
    obtain ⟨n, rfl⟩ : ∃ n', n = n' + 1 := ⟨n - 1, by omega⟩
    have ht : t < 6 := by omega
    have hm : left % 5 < 5 := Nat.mod_lt _ (by omega)
    have hmw : left % 5 * Wt μ t ≤ 4 * 20 := Nat.mul_le_mul (by omega) (hWb t ht).2
    have e3 : dgs (t + 1) left = dgs t (left / 5) ++ [left % 5] := rfl
    have fin : ∀ x, x = hvW (Wt μ) bt t (left % 5) → f_X9_packs_30 k11 n ν wb a2 a3 (nI (left / 5)) (nI (h + x)) (lI (g + gn μ fs t (left % 5))) (nI t + (-1 : Int32)) = pkEnd k11 ν wb a2 a3 (nI (h + ph (hvW (Wt μ) bt) 0 (dgs (t + 1) left))) (lI (g + pg (gn μ fs) 0 (dgs (t + 1) left))) := fun x hx => by
      have hb : x ≤ 1080 := by rw [hx]; exact hvW_le bt hmw
      rw [e3, ph_app, pg_app, dgs_len, Nat.zero_add, ← hx, ih n (left / 5) (h + x) _ (by omega) (by omega) (by omega) (by omega)]
      rw [show h + x + ph (hvW (Wt μ) bt) 0 (dgs t (left / 5)) = h + (ph (hvW (Wt μ) bt) 0 (dgs t (left / 5)) + x) by omega, Int.add_assoc g, Int.add_comm (gn μ fs t (left % 5))]
    have i1 : pp_ix (nI t) 6 := q_ix (by omega) (by omega)
    have d1 : nI left / (5 : Int32) = nI (left / 5) := pk_div (d := 5) (by omega) (by omega) (by omega)
    have d2 : nI left - nI (left / 5) * (5 : Int32) = nI (left % 5) := by
      have := pk_rem (a := left) (d := 5) (by omega) (by omega) (by omega)
      rw [pk_div (by omega) (by omega) (by omega)] at this
      exact this
    show f_X9_packs_30_B k11 (f_X9_packs_30 k11 n) _ _ _ _ _ _ _ _ = _
    unfold f_X9_packs_30_B f_X9_packs_76 f_X9_packs_77
    rw [nI_m1, if_neg (nI_nneg (by omega)), if_pos i1, q_cl (k := t) (by omega), hWe t ht, d1, d2, pk_mul, m_gainOf hI hM ht hm, Option.bind_some, Option.bind_some]
    by_cases c1 : t = bt
    · rw [if_pos ((hwb t ht).mpr c1)]
      by_cases c2 : 0 < left % 5
      · rw [if_pos (show (0 : Int32) < nI (left % 5) from nI_lt (a := 0) c2 (by omega)), show (1000 : Int32) = nI 1000 from rfl, nI_add, nI_add, lI_add]
        exact fin _ (by unfold hvW; rw [if_pos ⟨c1, c2⟩])
      · rw [if_neg (show ¬ (0 : Int32) < nI (left % 5) from q_nl (a := 0) (by omega) (by omega)), show (0 : Int32) = nI 0 from rfl, nI_add, nI_add, lI_add]
        exact fin _ (by unfold hvW; rw [if_neg (fun q => c2 q.2)])
    · rw [if_neg (fun q => c1 ((hwb t ht).mp q)), show (0 : Int32) = nI 0 from rfl, nI_add, nI_add, lI_add]
      exact fin _ (by unfold hvW; rw [if_neg (fun q => c1 q.1)])
theorem getD_app1 (p : List Nat) (k i : Nat) (h : i < p.length) : (p ++ [k]).getD i 0 = p.getD i 0 := by
  rw [List.getD_eq_getElem?_getD, List.getD_eq_getElem?_getD, List.getElem?_append_left h]
theorem getD_app2 (p : List Nat) (k : Nat) : (p ++ [k]).getD p.length 0 = k := by
  rw [List.getD_eq_getElem?_getD, List.getElem?_append_right (Nat.le_refl _), Nat.sub_self]
  rfl
def P59 (a : Nat) (t i : Nat) : Prop := t = 59 ∧ i < a
theorem m_pk150 (k11 : pp_M → Int32 → Int32 → Int32 → Option pp_M) {wb a2 a3 : Int32} : ∀ c n left ν, c ≤ 6 → c < n → left < 15625 → ∃ ν', f_X9_packs_150 k11 n ν wb a2 a3 (nI left) (nI c + (-1 : Int32)) = f_X9_packs_178 k11 ν' wb a2 a3 ∧ fr (P59 c) ν ν' ∧ ∀ t, t < c → ν'.1 59 t = nI ((dgs c left).getD t 0) := by
  intro c
  induction c with
  | zero =>
    intro n left ν hc hn hl
    obtain ⟨n, rfl⟩ : ∃ n', n = n' + 1 := ⟨n - 1, by omega⟩
    refine ⟨ν, ?_, fr_rf, fun t ht => by omega⟩
    show f_X9_packs_150_B k11 (f_X9_packs_150 k11 n) _ _ _ _ _ _ = _
    unfold f_X9_packs_150_B
    rw [if_pos (show nI 0 + (-1 : Int32) < 0 by decide)]
  | succ t ih =>
    intro n left ν hc hn hl
    obtain ⟨n, rfl⟩ : ∃ n', n = n' + 1 := ⟨n - 1, by omega⟩
    obtain ⟨ν', g1, g2, g3⟩ := ih n (left / 5) (ppS ν 59 t (nI (left % 5))) (by omega) (by omega) (by omega)
    have e3 : dgs (t + 1) left = dgs t (left / 5) ++ [left % 5] := rfl
    refine ⟨ν', ?_, fr_tr (fr_S ⟨rfl, by omega⟩) (fr_mono g2 (fun x i q => by unfold P59 at q ⊢; omega)), fun u hu => ?_⟩
    · have i1 : pp_ix (nI t) 6 := q_ix (by omega) (by omega)
      have d1 : nI left / (5 : Int32) = nI (left / 5) := pk_div (d := 5) (by omega) (by omega) (by omega)
      have d2 : nI left - nI (left / 5) * (5 : Int32) = nI (left % 5) := by
        have := pk_rem (a := left) (d := 5) (by omega) (by omega) (by omega)
        rw [pk_div (by omega) (by omega) (by omega)] at this
        exact this
      show f_X9_packs_150_B k11 (f_X9_packs_150 k11 n) _ _ _ _ _ _ = _
      unfold f_X9_packs_150_B
      rw [nI_m1, if_neg (nI_nneg (by omega)), if_pos i1, q_cl (k := t) (by omega), d1, d2]
      exact g1
    · rw [e3]
      have hl := dgs_len t (left / 5)
      by_cases e : u = t
      · rw [e, (g2 59 t (by unfold P59; omega)).1, qs_same]
        have := getD_app2 (dgs t (left / 5)) (left % 5)
        rw [hl] at this
        rw [this]
      · rw [g3 u (by omega), getD_app1 _ _ _ (by omega)]
/-- the best among the codes below c -/
def BST (ν : pp_M) (ls : Int32) (G : Nat → Nat → Int) (W : Nat → Nat) (bt L c b : Nat) : Prop :=
  b < c ∧ fe W bt L b ∧ ν.2 40 28 = lI (pg G 0 (dgs 6 b)) ∧ ls = nI (pw W 0 (dgs 6 b)) ∧ (∀ t, t < 6 → ν.1 59 t = nI ((dgs 6 b).getD t 0)) ∧ ∀ e, e < c → fe W bt L e → be G W b e
def PQ (t i : Nat) : Prop := t = 59 ∨ (t = 40 ∧ i = 28)
theorem PQ_NP {μ μ' : pp_M} (h : fr PQ μ μ') : fr NP μ μ' := fr_mono h (fun t i q => by unfold PQ at q; unfold NP; omega)
theorem fe_0 (W : Nat → Nat) (bt L : Nat) : fe W bt L 0 := by
  have hd : dgs 6 0 = [0, 0, 0, 0, 0, 0] := rfl
  unfold fe
  rw [hd]
  simp [pkF, pw]
theorem pg_0 (G : Nat → Nat → Int) (h : ∀ t, t < 6 → G t 0 = 0) : pg G 0 (dgs 6 0) = 0 := by
  have hd : dgs 6 0 = [0, 0, 0, 0, 0, 0] := rfl
  rw [hd]
  simp only [pg]
  rw [h 0 (by omega), h (0 + 1) (by omega), h (0 + 1 + 1) (by omega), h (0 + 1 + 1 + 1) (by omega), h (0 + 1 + 1 + 1 + 1) (by omega), h (0 + 1 + 1 + 1 + 1 + 1) (by omega)]
  rfl
theorem m_pk11 (hI : Inv μ) {fs : List Nat} {bt L : Nat} {wb : Int32} (hwb : ∀ t, t < 6 → (nI t = wb ↔ t = bt)) (hL : L ≤ 100) : ∀ d c n ν ls, c + d = 15625 → d < n → GM ν μ fs → ν.1 40 7 = nI L → ((c = 0 ∧ ν.2 40 28 = lI (-1000000000000000000)) ∨ ∃ b, BST ν ls (gn μ fs) (Wt μ) bt L c b) → ∃ ν' ls' b, f_X9_packs_11 n ν wb ls (nI c) = some ν' ∧ fr PQ ν ν' ∧ BST ν' ls' (gn μ fs) (Wt μ) bt L 15625 b := by
  have hWb : ∀ t, t < 6 → 1 ≤ Wt μ t ∧ Wt μ t ≤ 20 := fun t ht => (Wt_ok hI ht).2
  intro d
  induction d with
  | zero =>
    intro c n ν ls hc hn hM hLm hbst
    obtain ⟨n, rfl⟩ : ∃ n', n = n' + 1 := ⟨n - 1, by omega⟩
    have : c = 15625 := by omega
    subst this
    rcases hbst with h | ⟨b, hb⟩
    · exact absurd h.1 (by omega)
    refine ⟨ν, ls, b, ?_, fr_rf, hb⟩
    show f_X9_packs_11_B (f_X9_packs_11 n) _ _ _ _ = _
    unfold f_X9_packs_11_B
    rw [if_neg (show ¬ nI 15625 < (15625 : Int32) from q_nlt 15625)]
  | succ d ih =>
    intro c n ν ls hc hn hM hLm hbst
    obtain ⟨n, rfl⟩ : ∃ n', n = n' + 1 := ⟨n - 1, by omega⟩
    have gb := pg_bd (G := gn μ fs) (fun t ht k hk => gn_bd hI hM.2.2.2.1 hM.2.2.2.2 ht hk) 6
    have hb := ph_bd (W := Wt μ) hWb bt 6 c (by omega)
    have e0 : f_X9_packs_11 (n + 1) ν wb ls (nI c) = pkEnd (f_X9_packs_11 n) ν wb ls (nI c) (nI (ph (hvW (Wt μ) bt) 0 (dgs 6 c))) (lI (pg (gn μ fs) 0 (dgs 6 c))) := by
      show f_X9_packs_11_B (f_X9_packs_11 n) _ _ _ _ = _
      unfold f_X9_packs_11_B
      rw [if_pos (show nI c < (15625 : Int32) from nI_lt (b := 15625) (by omega) (by omega))]
      have := m_pk30 hI hM (f_X9_packs_11 n) (a2 := ls) (a3 := nI c) hwb 6 100000 c 0 0 (by omega) (by omega) (by omega) (by omega)
      rw [Nat.zero_add, Int.zero_add] at this
      exact this
    have skip : (¬ fe (Wt μ) bt L c ∨ ∃ b, BST ν ls (gn μ fs) (Wt μ) bt L c b ∧ be (gn μ fs) (Wt μ) b c) → f_X9_packs_11 (n + 1) ν wb ls (nI c) = f_X9_packs_11 n ν wb ls (nI (c + 1)) → ∃ ν' ls' b, f_X9_packs_11 (n + 1) ν wb ls (nI c) = some ν' ∧ fr PQ ν ν' ∧ BST ν' ls' (gn μ fs) (Wt μ) bt L 15625 b := fun hs he => by
      rw [he]
      refine ih (c + 1) n ν ls (by omega) (by omega) hM hLm (Or.inr ?_)
      rcases hbst with h | ⟨b, b1, b2, b3, b4, b5, b6⟩
      · rcases hs with hs | ⟨b, hb, _⟩
        · exact absurd (by rw [h.1]; exact fe_0 _ _ _) hs
        · exact absurd hb.1 (by omega)
      · rcases hs with hs | ⟨b', b1', hb2⟩
        · exact ⟨b, by omega, b2, b3, b4, b5, fun e he hf => by
            by_cases q : e = c
            · rw [q] at hf; exact absurd hf hs
            · exact b6 e (by omega) hf⟩
        · exact ⟨b', by have := b1'.1; omega, b1'.2.1, b1'.2.2.1, b1'.2.2.2.1, b1'.2.2.2.2.1, fun e he hf => by
            by_cases q : e = c
            · rw [q]; exact hb2
            · exact b1'.2.2.2.2.2 e (by omega) hf⟩
    have take : fe (Wt μ) bt L c → (∀ e, e < c → fe (Wt μ) bt L e → be (gn μ fs) (Wt μ) c e) → f_X9_packs_11 (n + 1) ν wb ls (nI c) = f_X9_packs_135 (f_X9_packs_11 n) ν wb (nI c) (nI (pw (Wt μ) 0 (dgs 6 c))) (lI (pg (gn μ fs) 0 (dgs 6 c))) → ∃ ν' ls' b, f_X9_packs_11 (n + 1) ν wb ls (nI c) = some ν' ∧ fr PQ ν ν' ∧ BST ν' ls' (gn μ fs) (Wt μ) bt L 15625 b := fun hf hall he => by
      obtain ⟨ν1, g1, g2, g3⟩ := m_pk150 (f_X9_packs_11 n) (wb := wb) (a2 := nI (pw (Wt μ) 0 (dgs 6 c))) (a3 := nI c) 6 100000 c (ppT ν 40 28 (lI (pg (gn μ fs) 0 (dgs 6 c)))) (by omega) (by omega) (by omega)
      have h1 : fr PQ ν ν1 := fr_tr (fr_T (Or.inr ⟨rfl, rfl⟩)) (fr_mono g2 (fun t i q => Or.inl q.1))
      obtain ⟨ν', ls', b, d1, d2, d3⟩ := ih (c + 1) n ν1 (nI (pw (Wt μ) 0 (dgs 6 c))) (by omega) (by omega) (GM_fr hM (PQ_NP h1)) (by rw [(h1 40 7 (by unfold PQ; omega)).1]; exact hLm) (Or.inr ⟨c, by omega, hf, by rw [(g2 40 28 (by unfold P59; omega)).2, qt_same], rfl, fun t ht => g3 t ht, fun e he hfe => by
        by_cases q : e = c
        · rw [q]; exact Or.inr ⟨rfl, Or.inr ⟨rfl, Nat.le_refl _⟩⟩
        · exact hall e (by omega) hfe⟩)
      refine ⟨ν', ls', b, ?_, fr_tr h1 d2, d3⟩
      rw [he]
      unfold f_X9_packs_135
      rw [show f_X9_packs_150 (f_X9_packs_11 n) 100000 (ppT ν 40 28 (lI (pg (gn μ fs) 0 (dgs 6 c)))) wb (nI (pw (Wt μ) 0 (dgs 6 c))) (nI c) (nI c) 5 = _ from g1]
      unfold f_X9_packs_178
      rw [nI_1]
      exact d1
    have e178 : f_X9_packs_178 (f_X9_packs_11 n) ν wb ls (nI c) = f_X9_packs_11 n ν wb ls (nI (c + 1)) := by unfold f_X9_packs_178; rw [nI_1]
    have hok : pkF 6 0 (dgs 6 c) := dgs_ok 6 c (by omega)
    by_cases c1 : pkF bt 0 (dgs 6 c)
    · have hph := ph_ok (Wt μ) bt (dgs 6 c) 0 c1
      rw [hph] at e0 hb
      by_cases c2 : pw (Wt μ) 0 (dgs 6 c) ≤ L
      · have hfe : fe (Wt μ) bt L c := ⟨c1, c2⟩
        have n1 : ¬ nI L < nI (pw (Wt μ) 0 (dgs 6 c)) := q_nl (by omega) (by omega)
        unfold pkEnd at e0
        rw [hLm, if_neg n1] at e0
        have gc := gb c (by omega)
        rcases hbst with h | ⟨b, hbb⟩
        · rw [h.2, if_pos ((lI_lt (by omega) (by omega) (by omega) (by omega)).mpr (by omega))] at e0
          exact take hfe (fun e he => by omega) e0
        · obtain ⟨b1, b2, b3, b4, b5, b6⟩ := hbb
          have gbb := gb b (by omega)
          have hwb6 : pw (Wt μ) 0 (dgs 6 b) ≤ L := b2.2
          rw [b3] at e0
          by_cases c3 : pg (gn μ fs) 0 (dgs 6 b) < pg (gn μ fs) 0 (dgs 6 c)
          · rw [if_pos ((lI_lt (by omega) (by omega) (by omega) (by omega)).mpr c3)] at e0
            refine take hfe (fun e he hf => ?_) e0
            have := b6 e he hf
            unfold be at this ⊢
            omega
          · rw [if_neg (fun q => c3 ((lI_lt (by omega) (by omega) (by omega) (by omega)).mp q))] at e0
            by_cases c4 : pg (gn μ fs) 0 (dgs 6 c) = pg (gn μ fs) 0 (dgs 6 b)
            · rw [if_pos (by rw [c4]), b4] at e0
              by_cases c5 : pw (Wt μ) 0 (dgs 6 c) < pw (Wt μ) 0 (dgs 6 b)
              · rw [if_pos (nI_lt c5 (by omega))] at e0
                rw [← b4] at e0
                refine take hfe (fun e he hf => ?_) e0
                have := b6 e he hf
                unfold be at this ⊢
                omega
              · rw [if_neg (q_nl (by omega) (by omega))] at e0
                rw [← b4, e178] at e0
                exact skip (Or.inr ⟨b, ⟨b1, b2, b3, b4, b5, b6⟩, by unfold be; omega⟩) e0
            · rw [if_neg (fun q => c4 ((lI_inj (by omega) (by omega) (by omega) (by omega)).mp q)), e178] at e0
              exact skip (Or.inr ⟨b, ⟨b1, b2, b3, b4, b5, b6⟩, by unfold be; omega⟩) e0
      · unfold pkEnd at e0
        rw [hLm, if_pos (nI_lt (by omega) (by omega)), e178] at e0
        exact skip (Or.inl (fun q => c2 q.2)) e0
    · have hph := ph_bad (Wt μ) bt 6 (dgs 6 c) 0 hok c1
      unfold pkEnd at e0
      rw [hLm, if_pos (nI_lt (by omega) (by omega)), e178] at e0
      exact skip (Or.inl (fun q => c1 q.1)) e0
theorem m_packs (hI : Inv μ) {fs : List Nat} {bt L : Nat} {wb : Int32} (hwb : ∀ t, t < 6 → (nI t = wb ↔ t = bt)) (hL : L ≤ 100) (hM : GM ν μ fs) (hLm : ν.1 40 7 = nI L) : ∃ ν' b, f_X9_packs ν wb = some ν' ∧ fr PQ ν ν' ∧ OPT (gn μ fs) (Wt μ) bt L b ∧ ν'.2 40 28 = lI (pg (gn μ fs) 0 (dgs 6 b)) ∧ ∀ t, t < 6 → ν'.1 59 t = nI ((dgs 6 b).getD t 0) := by
  have h0 : fr PQ ν (ppT ν 40 28 (-1000000000000000000)) := fr_T (Or.inr ⟨rfl, rfl⟩)
  obtain ⟨ν', ls', b, g1, g2, g3⟩ := m_pk11 hI (fs := fs) hwb hL 15625 0 100000 (ppT ν 40 28 (-1000000000000000000)) 0 (by omega) (by omega) (GM_fr hM (PQ_NP h0)) hLm (Or.inl ⟨rfl, by rw [qt_same]; rfl⟩)
  obtain ⟨b1, b2, b3, b4, b5, b6⟩ := g3
  exact ⟨ν', b, g1, fr_tr h0 g2, ⟨b1, b2, b6⟩, b3, b5⟩
end PACKS
