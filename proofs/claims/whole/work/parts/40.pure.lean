/-! packs, purely: gains G, weights W of things t, t + 1, .. -/
section PURE
def pg (G : Nat → Nat → Int) : Nat → List Nat → Int
  | _, [] => 0
  | t, k :: ks => G t k + pg G (t + 1) ks
def pw (W : Nat → Nat) : Nat → List Nat → Nat
  | _, [] => 0
  | t, k :: ks => k * W t + pw W (t + 1) ks
def pc : List Nat → Nat
  | [] => 0
  | k :: ks => k * 5 ^ ks.length + pc ks
/-- at most four of each, none of the thing that is left out -/
def pkF (bt : Nat) : Nat → List Nat → Prop
  | _, [] => True
  | t, k :: ks => k ≤ 4 ∧ (t = bt → k = 0) ∧ pkF bt (t + 1) ks
def dgs : Nat → Nat → List Nat
  | 0, _ => []
  | n + 1, c => dgs n (c / 5) ++ [c % 5]
theorem dgs_len : ∀ n c, (dgs n c).length = n
  | 0, _ => rfl
  | n + 1, c => by
    show (dgs n (c / 5) ++ [c % 5]).length = n + 1
    rw [List.length_append, dgs_len n]
    rfl
theorem pg_app (G : Nat → Nat → Int) : ∀ (p : List Nat) (t k : Nat), pg G t (p ++ [k]) = pg G t p + G (t + p.length) k
  | [], t, k => by
    show G t k + 0 = 0 + G (t + 0) k
    rw [Int.add_zero, Int.zero_add, Nat.add_zero]
  | q :: p, t, k => by
    show G t q + pg G (t + 1) (p ++ [k]) = G t q + pg G (t + 1) p + G (t + (p.length + 1)) k
    rw [pg_app G p (t + 1) k, show t + 1 + p.length = t + (p.length + 1) by omega]
    omega
theorem pw_app (W : Nat → Nat) : ∀ (p : List Nat) (t k : Nat), pw W t (p ++ [k]) = pw W t p + k * W (t + p.length)
  | [], t, k => by
    show k * W t + 0 = 0 + k * W (t + 0)
    rw [Nat.add_zero, Nat.zero_add, Nat.add_zero]
  | q :: p, t, k => by
    show q * W t + pw W (t + 1) (p ++ [k]) = q * W t + pw W (t + 1) p + k * W (t + (p.length + 1))
    rw [pw_app W p (t + 1) k, show t + 1 + p.length = t + (p.length + 1) by omega]
    omega
theorem pc_app : ∀ (p : List Nat) (k : Nat), pc (p ++ [k]) = 5 * pc p + k
  | [], k => by
    show k * 5 ^ 0 + 0 = 5 * 0 + k
    omega
  | q :: p, k => by
    show q * 5 ^ (p ++ [k]).length + pc (p ++ [k]) = 5 * (q * 5 ^ p.length + pc p) + k
    rw [pc_app p k, List.length_append, show p.length + [k].length = p.length + 1 from rfl, Nat.pow_succ, Nat.mul_add, ← Nat.mul_assoc q, Nat.mul_comm _ 5]
    omega
theorem pkF_app (bt : Nat) : ∀ (p : List Nat) (t k : Nat), pkF bt t (p ++ [k]) ↔ pkF bt t p ∧ k ≤ 4 ∧ (t + p.length = bt → k = 0)
  | [], t, k => by
    show (k ≤ 4 ∧ (t = bt → k = 0) ∧ True) ↔ True ∧ k ≤ 4 ∧ (t + 0 = bt → k = 0)
    rw [Nat.add_zero]
    exact ⟨fun h => ⟨trivial, h.1, h.2.1⟩, fun h => ⟨h.2.1, h.2.2, trivial⟩⟩
  | q :: p, t, k => by
    show (q ≤ 4 ∧ (t = bt → q = 0) ∧ pkF bt (t + 1) (p ++ [k])) ↔ (q ≤ 4 ∧ (t = bt → q = 0) ∧ pkF bt (t + 1) p) ∧ k ≤ 4 ∧ (t + (p.length + 1) = bt → k = 0)
    rw [pkF_app bt p (t + 1) k, show t + 1 + p.length = t + (p.length + 1) by omega]
    exact ⟨fun h => ⟨⟨h.1, h.2.1, h.2.2.1⟩, h.2.2.2⟩, fun h => ⟨h.1.1, h.1.2.1, h.1.2.2, h.2⟩⟩
theorem pc_dgs : ∀ n c, c < 5 ^ n → pc (dgs n c) = c
  | 0, c, h => by
    rw [Nat.pow_zero] at h
    show 0 = c
    omega
  | n + 1, c, h => by
    rw [Nat.pow_succ] at h
    show pc (dgs n (c / 5) ++ [c % 5]) = c
    rw [pc_app, pc_dgs n (c / 5) (by omega)]
    omega
theorem pc_lt (bt : Nat) : ∀ (p : List Nat) (t : Nat), pkF bt t p → pc p < 5 ^ p.length
  | [], _, _ => by show 0 < 5 ^ 0; omega
  | k :: p, t, h => by
    have ih := pc_lt bt p (t + 1) h.2.2
    have hk : k ≤ 4 := h.1
    show k * 5 ^ p.length + pc p < 5 ^ (p.length + 1)
    rw [Nat.pow_succ]
    generalize 5 ^ p.length = x at ih ⊢
    have : k = 0 ∨ k = 1 ∨ k = 2 ∨ k = 3 ∨ k = 4 := by omega
    rcases this with rfl | rfl | rfl | rfl | rfl <;> omega
theorem dgs_ok {bt : Nat} : ∀ n c, n ≤ bt → pkF bt 0 (dgs n c)
  | 0, _, _ => trivial
  | n + 1, c, hn => by
    show pkF bt 0 (dgs n (c / 5) ++ [c % 5])
    rw [pkF_app]
    refine ⟨dgs_ok n _ (by omega), by omega, fun h => ?_⟩
    rw [dgs_len] at h
    omega
theorem pc_ne {z k k' x y : Nat} (hx : x < z) (h : k < k') : k * z + x < k' * z + y := by
  have := Nat.mul_le_mul_right z (show k + 1 ≤ k' by omega)
  rw [Nat.add_mul, Nat.one_mul] at this
  omega
theorem pc_inj {bt bt' : Nat} : ∀ (p q : List Nat) (t : Nat), p.length = q.length → pkF bt t p → pkF bt' t q → pc p = pc q → p = q
  | [], [], _, _, _, _, _ => rfl
  | [], _ :: _, _, h, _, _, _ => by cases h
  | _ :: _, [], _, h, _, _, _ => by cases h
  | k :: p, k' :: q, t, h, hp, hq, he => by
    have hl : p.length = q.length := Nat.succ.inj h
    have h1 := pc_lt bt p (t + 1) hp.2.2
    have h2 := pc_lt bt' q (t + 1) hq.2.2
    have he' : k * 5 ^ p.length + pc p = k' * 5 ^ q.length + pc q := he
    rw [← hl] at he' h2
    rcases Nat.lt_trichotomy k k' with c | c | c
    · exact absurd he' (Nat.ne_of_lt (pc_ne h1 c))
    · subst c
      rw [pc_inj p q (t + 1) hl hp.2.2 hq.2.2 (by omega)]
    · exact absurd he' (Nat.ne_of_gt (pc_ne h2 c))
theorem dgs_pc {bt : Nat} {p : List Nat} (h : pkF bt 0 p) : dgs p.length (pc p) = p :=
  pc_inj (bt := p.length) _ p 0 (dgs_len _ _) (dgs_ok _ _ (Nat.le_refl _)) h (pc_dgs _ _ (pc_lt bt p 0 h))
/-- the most by things from t on, k of t at most -/
def dI (G : Nat → Nat → Int) (W : Nat → Nat) (oth : Nat → Int) (t r : Nat) : Nat → Int
  | 0 => oth r
  | k + 1 => if G t (k + 1) + oth (r - (k + 1) * W t) < dI G W oth t r k then dI G W oth t r k else G t (k + 1) + oth (r - (k + 1) * W t)
def km (W tp : Nat → Nat) (t r : Nat) : Nat := min (tp t) (r / W t)
def dM (G : Nat → Nat → Int) (W tp : Nat → Nat) : Nat → Nat → Int
  | 0, _ => 0
  | n + 1, r => dI G W (dM G W tp n) (5 - n) r (km W tp (5 - n) r)
theorem dI_ge {G : Nat → Nat → Int} {W : Nat → Nat} {oth : Nat → Int} {t r : Nat} (h0 : G t 0 = 0) : ∀ j k, k ≤ j → G t k + oth (r - k * W t) ≤ dI G W oth t r j
  | 0, k, h => by
    have : k = 0 := by omega
    subst this
    rw [h0, Nat.zero_mul, Nat.sub_zero, Int.zero_add]
    exact Int.le_refl _
  | j + 1, k, h => by
    unfold dI
    by_cases e : k = j + 1
    · subst e
      split <;> omega
    · have := dI_ge (W := W) (oth := oth) (r := r) h0 j k (by omega)
      split <;> omega
theorem dI_ex {G : Nat → Nat → Int} {W : Nat → Nat} {oth : Nat → Int} {t r : Nat} (h0 : G t 0 = 0) : ∀ j, ∃ k, k ≤ j ∧ dI G W oth t r j = G t k + oth (r - k * W t)
  | 0 => ⟨0, Nat.le_refl _, by rw [h0, Nat.zero_mul, Nat.sub_zero, Int.zero_add]; rfl⟩
  | j + 1 => by
    unfold dI
    split
    · obtain ⟨k, hk, e⟩ := dI_ex (W := W) (oth := oth) (r := r) h0 j
      exact ⟨k, by omega, e⟩
    · exact ⟨j + 1, Nat.le_refl _, rfl⟩
theorem km_le {W tp : Nat → Nat} {t r k : Nat} (hW : 0 < W t) : k ≤ km W tp t r ↔ k ≤ tp t ∧ k * W t ≤ r := by
  unfold km
  rw [Nat.le_min, Nat.le_div_iff_mul_le hW]
/-- what the gains and the tops must be -/
def pkOk (G : Nat → Nat → Int) (W : Nat → Nat) (bt : Nat) (tp : Nat → Nat) : Prop := ∀ t, t < 6 → 0 < W t ∧ G t 0 = 0 ∧ tp t ≤ 4 ∧ (t = bt → tp t = 0) ∧ ∀ k, k ≤ 4 → t ≠ bt → tp t < k → G t k ≤ G t (tp t)
theorem dM_ub {G : Nat → Nat → Int} {W tp : Nat → Nat} {bt : Nat} (h : pkOk G W bt tp) : ∀ (p : List Nat) (t r : Nat), t + p.length = 6 → pkF bt t p → pw W t p ≤ r → pg G t p ≤ dM G W tp p.length r
  | [], _, _, _, _, _ => Int.le_refl _
  | k :: p, t, r, ht, ho, hw => by
    have hl : (k :: p).length = p.length + 1 := rfl
    rw [hl] at ht ⊢
    have h5 : 5 - p.length = t := by omega
    obtain ⟨q1, q2, q3, q4, q5⟩ := h t (by omega)
    have hw' : k * W t + pw W (t + 1) p ≤ r := hw
    show G t k + pg G (t + 1) p ≤ dI G W (dM G W tp p.length) (5 - p.length) r (km W tp (5 - p.length) r)
    rw [h5]
    have key : ∀ j, j ≤ k → j ≤ tp t → G t k ≤ G t j → G t k + pg G (t + 1) p ≤ dI G W (dM G W tp p.length) t r (km W tp t r) := fun j hj hj2 hg => by
      have hjw : j * W t ≤ k * W t := Nat.mul_le_mul_right _ hj
      have ih := dM_ub h p (t + 1) (r - j * W t) (by omega) ho.2.2 (by omega)
      have := dI_ge (G := G) (W := W) (oth := dM G W tp p.length) (t := t) (r := r) q2 (km W tp t r) j ((km_le q1).mpr ⟨hj2, by omega⟩)
      omega
    by_cases c : k ≤ tp t
    · exact key k (Nat.le_refl _) c (Int.le_refl _)
    · by_cases e : t = bt
      · have := ho.2.1 e
        omega
      · exact key (tp t) (by omega) (Nat.le_refl _) (q5 k ho.1 e (by omega))
theorem dM_ex {G : Nat → Nat → Int} {W tp : Nat → Nat} {bt : Nat} (h : pkOk G W bt tp) : ∀ (n t r : Nat), t + n = 6 → ∃ p : List Nat, p.length = n ∧ pkF bt t p ∧ pw W t p ≤ r ∧ pg G t p = dM G W tp n r
  | 0, _, r, _ => ⟨[], rfl, trivial, Nat.zero_le _, rfl⟩
  | n + 1, t, r, ht => by
    have h5 : 5 - n = t := by omega
    obtain ⟨q1, q2, q3, q4, q5⟩ := h t (by omega)
    obtain ⟨k, hk, e⟩ := dI_ex (G := G) (W := W) (oth := dM G W tp n) (t := t) (r := r) q2 (km W tp t r)
    rw [km_le q1] at hk
    obtain ⟨p, p1, p2, p3, p4⟩ := dM_ex h n (t + 1) (r - k * W t) (by omega)
    refine ⟨k :: p, by rw [List.length_cons, p1], ⟨by omega, fun hb => by have := q4 hb; omega, p2⟩, ?_, ?_⟩
    · show k * W t + pw W (t + 1) p ≤ r
      omega
    · show G t k + pg G (t + 1) p = dI G W (dM G W tp n) (5 - n) r (km W tp (5 - n) r)
      rw [h5, e, p4]
theorem dM_mono {G : Nat → Nat → Int} {W tp : Nat → Nat} {bt : Nat} (h : pkOk G W bt tp) {r s : Nat} (hrs : r ≤ s) : dM G W tp 6 r ≤ dM G W tp 6 s := by
  obtain ⟨p, p1, p2, p3, p4⟩ := dM_ex h 6 0 r rfl
  have := dM_ub h p 0 s (by omega) p2 (by omega)
  rw [p1] at this
  omega
/-- the least number of t with which the most is reached -/
def LN (G : Nat → Nat → Int) (W tp : Nat → Nat) (n t r k : Nat) : Prop := k ≤ km W tp t r ∧ G t k + dM G W tp n (r - k * W t) = dM G W tp (n + 1) r ∧ ∀ j, j < k → G t j + dM G W tp n (r - j * W t) ≠ dM G W tp (n + 1) r
def GR (G : Nat → Nat → Int) (W tp : Nat → Nat) : Nat → Nat → List Nat → Prop
  | _, _, [] => True
  | t, r, k :: ks => LN G W tp ks.length t r k ∧ GR G W tp (t + 1) (r - k * W t) ks
def leP (tp : Nat → Nat) : Nat → List Nat → Prop
  | _, [] => True
  | t, k :: ks => k ≤ tp t ∧ leP tp (t + 1) ks
theorem grd_ok {G : Nat → Nat → Int} {W tp : Nat → Nat} {bt : Nat} (h : pkOk G W bt tp) : ∀ (p : List Nat) (t r : Nat), t + p.length = 6 → GR G W tp t r p → pg G t p = dM G W tp p.length r ∧ pw W t p ≤ r ∧ pkF bt t p
  | [], _, _, _, _ => ⟨rfl, Nat.zero_le _, trivial⟩
  | k :: p, t, r, ht, hg => by
    have hl : (k :: p).length = p.length + 1 := rfl
    rw [hl] at ht ⊢
    obtain ⟨q1, q2, q3, q4, q5⟩ := h t (by omega)
    obtain ⟨⟨l1, l2, l3⟩, hg2⟩ := hg
    rw [km_le q1] at l1
    obtain ⟨a1, a2, a3⟩ := grd_ok h p (t + 1) (r - k * W t) (by omega) hg2
    refine ⟨?_, ?_, by omega, fun hb => by have := q4 hb; omega, a3⟩
    · show G t k + pg G (t + 1) p = _
      rw [a1, l2]
    · show k * W t + pw W (t + 1) p ≤ r
      omega
theorem gr_least {G : Nat → Nat → Int} {W tp : Nat → Nat} {bt : Nat} (h : pkOk G W bt tp) : ∀ (p q : List Nat) (t r : Nat), t + p.length = 6 → GR G W tp t r p → q.length = p.length → pkF bt t q → leP tp t q → pw W t q ≤ r → pg G t q = dM G W tp p.length r → pc p ≤ pc q
  | [], [], _, _, _, _, _, _, _, _, _ => Nat.le_refl _
  | [], _ :: _, _, _, _, _, h, _, _, _, _ => by cases h
  | _ :: _, [], _, _, _, _, h, _, _, _, _ => by cases h
  | k :: p, k' :: q, t, r, ht, hg, hl, ho, hle, hw, he => by
    have hl' : q.length = p.length := Nat.succ.inj hl
    have hlc : (k :: p).length = p.length + 1 := rfl
    rw [hlc] at ht he
    have h5 : 5 - p.length = t := by omega
    have hgo := grd_ok h (k :: p) t r (by rw [hlc]; exact ht) hg
    obtain ⟨q1, q2, q3, q4, q5⟩ := h t (by omega)
    obtain ⟨⟨l1, l2, l3⟩, hg2⟩ := hg
    have hw' : k' * W t + pw W (t + 1) q ≤ r := hw
    have he' : G t k' + pg G (t + 1) q = dM G W tp (p.length + 1) r := he
    have u1 := dM_ub h q (t + 1) (r - k' * W t) (by omega) ho.2.2 (by omega)
    rw [hl'] at u1
    have u2 := dI_ge (G := G) (W := W) (oth := dM G W tp p.length) (t := t) (r := r) q2 (km W tp t r) k' ((km_le q1).mpr ⟨hle.1, by omega⟩)
    have u3 : dM G W tp (p.length + 1) r = dI G W (dM G W tp p.length) t r (km W tp t r) := by
      show dI G W (dM G W tp p.length) (5 - p.length) r (km W tp (5 - p.length) r) = _
      rw [h5]
    have hx := pc_lt bt p (t + 1) hgo.2.2.2.2
    show k * 5 ^ p.length + pc p ≤ k' * 5 ^ q.length + pc q
    rw [hl']
    rcases Nat.lt_trichotomy k k' with c | c | c
    · exact Nat.le_of_lt (pc_ne hx c)
    · subst c
      have := gr_least h p q (t + 1) (r - k * W t) (by omega) hg2 hl' ho.2.2 hle.2 (by omega) (by omega)
      omega
    · exact absurd (by omega) (l3 k' c)
def cutP (tp : Nat → Nat) : Nat → List Nat → List Nat
  | _, [] => []
  | t, k :: ks => min k (tp t) :: cutP tp (t + 1) ks
theorem cut_ok {G : Nat → Nat → Int} {W tp : Nat → Nat} {bt : Nat} (h : pkOk G W bt tp) : ∀ (q : List Nat) (t : Nat), t + q.length ≤ 6 → pkF bt t q → pg G t q ≤ pg G t (cutP tp t q) ∧ pw W t (cutP tp t q) ≤ pw W t q ∧ pkF bt t (cutP tp t q) ∧ (cutP tp t q).length = q.length ∧ (pw W t q ≤ pw W t (cutP tp t q) → leP tp t q)
  | [], _, _, _ => ⟨Int.le_refl _, Nat.le_refl _, trivial, rfl, fun _ => trivial⟩
  | k :: q, t, ht, ho => by
    have hlc : (k :: q).length = q.length + 1 := rfl
    rw [hlc] at ht
    obtain ⟨q1, q2, q3, q4, q5⟩ := h t (by omega)
    obtain ⟨a1, a2, a3, a4, a5⟩ := cut_ok h q (t + 1) (by omega) ho.2.2
    have hm : min k (tp t) * W t ≤ k * W t := Nat.mul_le_mul_right _ (Nat.min_le_left _ _)
    have hg : G t k ≤ G t (min k (tp t)) := by
      by_cases c : k ≤ tp t
      · rw [Nat.min_eq_left c]; exact Int.le_refl _
      · rw [Nat.min_eq_right (by omega)]
        by_cases e : t = bt
        · have := ho.2.1 e
          omega
        · exact q5 k ho.1 e (by omega)
    refine ⟨?_, ?_, ⟨by have := ho.1; omega, fun e => by have := ho.2.1 e; omega, a3⟩, by show _ + 1 = _ + 1; rw [a4], fun hh => ?_⟩
    · show G t k + _ ≤ G t (min k (tp t)) + _
      omega
    · show min k (tp t) * W t + _ ≤ k * W t + _
      omega
    · have hh' : k * W t + pw W (t + 1) q ≤ min k (tp t) * W t + pw W (t + 1) (cutP tp (t + 1) q) := hh
      have e1 : k * W t ≤ min k (tp t) * W t := by omega
      have e2 : k ≤ min k (tp t) := Nat.le_of_mul_le_mul_right e1 q1
      exact ⟨by omega, a5 (by omega)⟩
/-- what may be packed, what is better; the best of all codes -/
def fe (W : Nat → Nat) (bt L c : Nat) : Prop := pkF bt 0 (dgs 6 c) ∧ pw W 0 (dgs 6 c) ≤ L
def be (G : Nat → Nat → Int) (W : Nat → Nat) (c d : Nat) : Prop := pg G 0 (dgs 6 d) < pg G 0 (dgs 6 c) ∨ (pg G 0 (dgs 6 d) = pg G 0 (dgs 6 c) ∧ (pw W 0 (dgs 6 c) < pw W 0 (dgs 6 d) ∨ (pw W 0 (dgs 6 c) = pw W 0 (dgs 6 d) ∧ c ≤ d)))
def OPT (G : Nat → Nat → Int) (W : Nat → Nat) (bt L c : Nat) : Prop := c < 15625 ∧ fe W bt L c ∧ ∀ d, d < 15625 → fe W bt L d → be G W c d
theorem opt_uniq {G : Nat → Nat → Int} {W : Nat → Nat} {bt L c d : Nat} (h1 : OPT G W bt L c) (h2 : OPT G W bt L d) : c = d := by
  have a := h1.2.2 d h2.1 h2.2.1
  have b := h2.2.2 c h1.1 h1.2.1
  unfold be at a b
  omega
theorem opt_gain {G : Nat → Nat → Int} {W tp : Nat → Nat} {bt L c : Nat} (h : pkOk G W bt tp) (h1 : OPT G W bt L c) : pg G 0 (dgs 6 c) = dM G W tp 6 L := by
  have u := dM_ub h (dgs 6 c) 0 L (by rw [dgs_len]) h1.2.1.1 h1.2.1.2
  rw [dgs_len] at u
  obtain ⟨p, p1, p2, p3, p4⟩ := dM_ex h 6 0 L rfl
  have e := dgs_pc p2
  rw [p1] at e
  have hl := pc_lt bt p 0 p2
  rw [p1] at hl
  have := h1.2.2 (pc p) hl ⟨by rw [e]; exact p2, by rw [e]; exact p3⟩
  unfold be at this
  rw [e] at this
  omega
theorem opt_best {G : Nat → Nat → Int} {W tp : Nat → Nat} {bt L R : Nat} {b : List Nat} (h : pkOk G W bt tp) (hR : R ≤ L) (h1 : dM G W tp 6 R = dM G W tp 6 L) (h2 : ∀ r, r < R → dM G W tp 6 r < dM G W tp 6 L) (hb : b.length = 6) (hg : GR G W tp 0 R b) : OPT G W bt L (pc b) ∧ dgs 6 (pc b) = b := by
  obtain ⟨a1, a2, a3⟩ := grd_ok h b 0 R (by omega) hg
  have e := dgs_pc a3
  have hl := pc_lt bt b 0 a3
  rw [hb] at e hl a1
  refine ⟨⟨hl, ⟨by rw [e]; exact a3, by rw [e]; omega⟩, fun d hd hf => ?_⟩, e⟩
  have u := dM_ub h (dgs 6 d) 0 L (by rw [dgs_len]) hf.1 hf.2
  have u2 := dM_ub h (dgs 6 d) 0 _ (by rw [dgs_len]) hf.1 (Nat.le_refl _)
  have ub := dM_ub h b 0 _ (by omega) a3 (Nat.le_refl _)
  rw [dgs_len] at u u2
  rw [hb] at ub
  have hwb : ¬ pw W 0 b < R := fun q => by have := h2 _ q; omega
  unfold be
  rw [e]
  by_cases c1 : pg G 0 (dgs 6 d) = dM G W tp 6 L
  · have hwd : ¬ pw W 0 (dgs 6 d) < R := fun q => by have := h2 _ q; omega
    refine Or.inr ⟨by omega, ?_⟩
    by_cases c2 : pw W 0 (dgs 6 d) = R
    · refine Or.inr ⟨by omega, ?_⟩
      obtain ⟨k1, k2, k3, k4, k5⟩ := cut_ok h (dgs 6 d) 0 (by rw [dgs_len]; omega) hf.1
      have uc := dM_ub h (cutP tp 0 (dgs 6 d)) 0 _ (by rw [k4, dgs_len]) k3 (Nat.le_refl _)
      rw [k4, dgs_len] at uc
      have hle : leP tp 0 (dgs 6 d) := k5 (by
        apply Nat.le_of_not_lt
        intro q
        have := h2 (pw W 0 (cutP tp 0 (dgs 6 d))) (by omega)
        omega)
      have := gr_least h b (dgs 6 d) 0 R (by omega) hg (by rw [dgs_len, hb]) hf.1 hle (by omega) (by rw [hb]; omega)
      rw [pc_dgs 6 d hd] at this
      exact this
    · exact Or.inl (by omega)
  · exact Or.inl (by omega)
theorem pg_sc (G : Nat → Nat → Int) (s : Int) : ∀ (p : List Nat) (t : Nat), pg (fun t k => G t k * s) t p = pg G t p * s
  | [], _ => (Int.zero_mul s).symm
  | k :: p, t => by
    show G t k * s + _ = (G t k + pg G (t + 1) p) * s
    rw [pg_sc G s p (t + 1), Int.add_mul]
theorem opt_sc {G : Nat → Nat → Int} {W : Nat → Nat} {bt L c : Nat} {s : Int} (hs : 0 < s) (h : OPT (fun t k => G t k * s) W bt L c) : OPT G W bt L c := by
  refine ⟨h.1, h.2.1, fun d hd hf => ?_⟩
  have := h.2.2 d hd hf
  unfold be at this ⊢
  rw [pg_sc, pg_sc] at this
  rcases this with q | ⟨q, r⟩
  · exact Or.inl (Int.lt_of_mul_lt_mul_right q (Int.le_of_lt hs))
  · exact Or.inr ⟨Int.eq_of_mul_eq_mul_right (by omega) q, r⟩
end PURE
