/-! rows told by figures are all rows of open farms, in the order of their codes -/
section ROWSET
variable {Ca : pp_M → pp_M → Prop} {σ μ ν : pp_M}
theorem pigeon : ∀ (M : Nat) (ds : List Nat), vD M ds → ds.length ≤ M
  | 0, ds, h => by
    cases ds with
    | nil => exact Nat.le_refl _
    | cons d ds => exact absurd (h.2 d (List.mem_cons_self ..)) (Nat.not_lt_zero _)
  | M + 1, ds, h => by
    by_cases c : M ∈ ds
    · have := pigeon M (ds.erase M) ⟨h.1.erase M, fun d hd => by
        have q := (List.Nodup.mem_erase_iff h.1).mp hd
        have := h.2 d q.2
        have := q.1
        omega⟩
      rw [List.length_erase_of_mem c] at this
      have := List.length_pos_of_mem c
      omega
    · have := pigeon M ds ⟨h.1, fun d hd => by
        have := h.2 d hd
        have : d ≠ M := fun e => c (e ▸ hd)
        omega⟩
      omega
theorem pkF_of : ∀ (ds : List Nat) (t : Nat), (∀ d ∈ ds, d < 5) → t + ds.length ≤ 6 → pkF 6 t ds
  | [], _, _, _ => trivial
  | d :: ds, t, h, ht => by
    rw [List.length_cons] at ht
    have := h d (List.mem_cons_self ..)
    exact ⟨by omega, fun e => by omega, pkF_of ds (t + 1) (fun e he => h e (List.mem_cons_of_mem _ he)) (by omega)⟩
theorem fL_inj {o i j : Nat} (hi : i < (fL o).length) (hj : j < (fL o).length) (h : (fL o).getD i 0 = (fL o).getD j 0) : i = j := by
  rcases Nat.lt_trichotomy i j with c | c | c
  · have := fL_lt c hj; omega
  · exact c
  · have := fL_lt c hi; omega
theorem rowD_len (o : Nat) (ds : List Nat) : (rowD o ds).length = ds.length := List.length_map _
theorem rowD_v {o : Nat} (ho : (fL o).length ≤ 5) : ∀ {ds : List Nat}, vD (fL o).length ds → vR o (rowD o ds) := fun {ds} h => by
  refine ⟨by rw [rowD_len]; have := pigeon _ _ h; omega, ?_, fun f hf => ?_⟩
  · induction ds with
    | nil => exact List.nodup_nil
    | cons d ds ih =>
      have hn := List.nodup_cons.mp h.1
      refine List.nodup_cons.mpr ⟨fun q => ?_, ih ⟨hn.2, fun e he => h.2 e (List.mem_cons_of_mem _ he)⟩⟩
      obtain ⟨e, e1, e2⟩ := List.mem_map.mp q
      have := fL_inj (h.2 e (List.mem_cons_of_mem _ e1)) (h.2 d (List.mem_cons_self ..)) e2
      exact hn.1 (this ▸ e1)
  · obtain ⟨e, e1, e2⟩ := List.mem_map.mp hf
    rw [← e2]
    exact fL_at (h.2 e e1)
theorem rowD_of {o : Nat} : ∀ {R : List Nat}, vR o R → ∃ ds, vD (fL o).length ds ∧ R = rowD o ds
  | [], _ => ⟨[], ⟨List.nodup_nil, fun d hd => by cases hd⟩, rfl⟩
  | f :: R, h => by
    have hn := List.nodup_cons.mp h.2.1
    have hl := h.1
    rw [List.length_cons] at hl
    obtain ⟨ds, h1, h2⟩ := rowD_of (R := R) ⟨by omega, hn.2, fun g hg => h.2.2 g (List.mem_cons_of_mem _ hg)⟩
    have hf := h.2.2 f (List.mem_cons_self ..)
    have hm : f ∈ fL o := (fLb_mem o 7 f).mpr hf
    obtain ⟨i, i1, i2⟩ := List.mem_iff_getElem.mp hm
    have i3 : (fL o).getD i 0 = f := by rw [List.getD_eq_getElem?_getD, List.getElem?_eq_getElem i1]; exact i2
    refine ⟨i :: ds, ⟨List.nodup_cons.mpr ⟨fun q => ?_, h1.1⟩, fun d hd => ?_⟩, ?_⟩
    · refine hn.1 ?_
      rw [h2, ← i3]
      exact List.mem_map_of_mem q
    · rcases List.mem_cons.mp hd with rfl | hd
      · exact i1
      · exact h1.2 d hd
    · show f :: R = (fL o).getD i 0 :: rowD o ds
      rw [i3, h2]
theorem ord_len : ∀ (R Q : List Nat), (∀ f ∈ R, f ≤ 7) → (∀ f ∈ Q, 1 ≤ f) → R.length < Q.length → code8 R ≤ code8 Q
  | R, [], _, _, h => by cases h
  | R, f :: Q, hR, hQ, h => by
    have h1 := code8_lt R hR
    have h2 := hQ f (List.mem_cons_self ..)
    rw [List.length_cons] at h
    have h3 : (8 : Nat) ^ R.length ≤ 8 ^ Q.length := Nat.pow_le_pow_right (by omega) (by omega)
    have h4 := Nat.mul_le_mul_right (8 ^ Q.length) h2
    show _ ≤ f * 8 ^ Q.length + code8 Q
    omega
theorem ord_lex {o : Nat} (ho : (fL o).length ≤ 5) : ∀ (ds es : List Nat), ds.length = es.length → ds.length ≤ 5 → (∀ d ∈ ds, d < (fL o).length) → (∀ d ∈ es, d < (fL o).length) → pc ds < pc es → code8 (rowD o ds) ≤ code8 (rowD o es)
  | [], [], _, _, _, _, h => by exact absurd h (Nat.lt_irrefl _)
  | [], e :: es, h, _, _, _, _ => by cases h
  | d :: ds, [], h, _, _, _, _ => by cases h
  | d :: ds, e :: es, hl, hl5, hd, he, h => by
    have hl' : ds.length = es.length := Nat.succ.inj hl
    rw [List.length_cons] at hl5
    have d0 := hd d (List.mem_cons_self ..)
    have e0 := he e (List.mem_cons_self ..)
    have d1 := fun x hx => hd x (List.mem_cons_of_mem _ hx)
    have e1 := fun x hx => he x (List.mem_cons_of_mem _ hx)
    have c1 := code8_lt (rowD o ds) (fun f hf => by
      obtain ⟨x, x1, x2⟩ := List.mem_map.mp hf
      rw [← x2]; exact (fL_at (d1 x x1)).2.1)
    rw [rowD_len] at c1
    have p1 := pc_lt 6 es 1 (pkF_of es 1 (fun x hx => by have := e1 x hx; omega) (by omega))
    have h' : d * 5 ^ ds.length + pc ds < e * 5 ^ es.length + pc es := h
    show (fL o).getD d 0 * 8 ^ (rowD o ds).length + code8 (rowD o ds) ≤ (fL o).getD e 0 * 8 ^ (rowD o es).length + code8 (rowD o es)
    rw [rowD_len, rowD_len, ← hl']
    rw [← hl'] at h' p1
    rcases Nat.lt_trichotomy d e with c | c | c
    · have hlt := fL_lt c e0
      have := pc_ne (y := code8 (rowD o es)) c1 hlt
      omega
    · subst c
      have := ord_lex ho ds es hl' (by omega) d1 e1 (by omega)
      omega
    · have := pc_ne (y := pc ds) p1 c
      omega
/-- rows told up to length n, code c -/
def dn (μ : pp_M) (n c : Nat) (ds : List Nat) : Prop := (vD (fL (Op μ)).length ds ∧ (hrN (DW μ) 0 (rowD (Op μ) ds) : Int) ≤ (μ.1 40 6).toInt) ∧ (ds.length < n ∨ (ds.length = n ∧ pc ds < c))
def AL (μ : pp_M) (ds : List Nat) : Prop := vD (fL (Op μ)).length ds ∧ (hrN (DW μ) 0 (rowD (Op μ) ds) : Int) ≤ (μ.1 40 6).toInt
theorem dn_0 (μ : pp_M) : dn μ 0 0 = fun _ => False := funext fun ds => propext ⟨fun h => by
  rcases h.2 with q | q
  · exact absurd q (Nat.not_lt_zero _)
  · exact absurd q.2 (Nat.not_lt_zero _), fun h => h.elim⟩
theorem dn_lt5 {n c : Nat} (hM : (fL (Op μ)).length ≤ 5) {ds : List Nat} (h : vD (fL (Op μ)).length ds) : ds.length ≤ 5 ∧ pkF 6 0 ds := by
  have := pigeon _ _ h
  exact ⟨by omega, pkF_of ds 0 (fun d hd => by have := h.2 d hd; omega) (by omega)⟩
theorem dn_end {n : Nat} (hM : (fL (Op μ)).length ≤ 5) : dn μ n (5 ^ n) = dn μ (n + 1) 0 := funext fun ds => propext ⟨fun h => ⟨h.1, by
  rcases h.2 with q | q
  · exact Or.inl (by omega)
  · exact Or.inl (by omega)⟩, fun h => ⟨h.1, by
  have h5 := dn_lt5 (n := 0) (c := 0) hM h.1.1
  have hp := pc_lt 6 ds 0 h5.2
  rcases h.2 with q | q
  · by_cases e : ds.length = n
    · exact Or.inr ⟨e, by rw [← e]; exact hp⟩
    · exact Or.inl (by omega)
  · exact absurd q.2 (Nat.not_lt_zero _)⟩⟩
theorem dn_all : dn μ ((fL (Op μ)).length + 1) 0 = AL μ := funext fun ds => propext ⟨fun h => h.1, fun h => ⟨h, Or.inl (by have := pigeon _ _ h.1; omega)⟩⟩
theorem dn_eq {n c : Nat} (hM : (fL (Op μ)).length ≤ 5) {ds : List Nat} (h : vD (fL (Op μ)).length ds) (h1 : ds.length = n) (h2 : pc ds = c) : ds = dgs n c := by
  have := dgs_pc (dn_lt5 (n := 0) (c := 0) hM h).2
  rw [h1, h2] at this
  exact this.symm
theorem dn_skip {n c : Nat} (hM : (fL (Op μ)).length ≤ 5) (h : ¬ AL μ (dgs n c)) : dn μ n (c + 1) = dn μ n c := funext fun ds => propext ⟨fun q => ⟨q.1, by
  rcases q.2 with r | r
  · exact Or.inl r
  · by_cases e : pc ds = c
    · have := dn_eq hM q.1.1 r.1 e
      rw [this] at q
      exact absurd q.1 h
    · exact Or.inr ⟨r.1, by omega⟩⟩, fun q => ⟨q.1, by
  rcases q.2 with r | r
  · exact Or.inl r
  · exact Or.inr ⟨r.1, by omega⟩⟩⟩
theorem dn_add {n c : Nat} (hM : (fL (Op μ)).length ≤ 5) (hc : c < 5 ^ n) (h : AL μ (dgs n c)) : dn μ n (c + 1) = fun ds => dn μ n c ds ∨ ds = dgs n c := funext fun ds => propext ⟨fun q => by
  rcases q.2 with r | r
  · exact Or.inl ⟨q.1, Or.inl r⟩
  · by_cases e : pc ds = c
    · exact Or.inr (dn_eq hM q.1.1 r.1 e)
    · exact Or.inl ⟨q.1, Or.inr ⟨r.1, by omega⟩⟩, fun q => by
  rcases q with q | q
  · refine ⟨q.1, ?_⟩
    rcases q.2 with r | r
    · exact Or.inl r
    · exact Or.inr ⟨r.1, by omega⟩
  · rw [q]
    exact ⟨h, Or.inr ⟨dgs_len _ _, by rw [pc_dgs n c hc]; omega⟩⟩⟩
theorem dn_ord {n c : Nat} (hM : (fL (Op μ)).length ≤ 5) (hc : c < 5 ^ n) (h : AL μ (dgs n c)) {ds : List Nat} (q : dn μ n c ds) : code8 (rowD (Op μ) ds) ≤ code8 (rowD (Op μ) (dgs n c)) := by
  rcases q.2 with r | r
  · refine ord_len _ _ (fun f hf => ((rowD_v hM q.1.1).2.2 f hf).2.1) (fun f hf => ((rowD_v hM h.1).2.2 f hf).1) ?_
    rw [rowD_len, rowD_len, dgs_len]
    exact r
  · exact ord_lex hM ds (dgs n c) (by rw [dgs_len]; exact r.1) (dn_lt5 (n := 0) (c := 0) hM q.1.1).1 q.1.1.2 h.1.2 (by rw [pc_dgs n c hc]; exact r.2)
theorem AL_ok (hM : (fL (Op μ)).length ≤ 5) {ds : List Nat} (h : AL μ ds) : OKr μ (rowD (Op μ) ds) := ⟨rowD_v hM h.1, h.2⟩
theorem AL_of {R : List Nat} (h : OKr μ R) : ∃ ds, AL μ ds ∧ R = rowD (Op μ) ds := by
  obtain ⟨ds, h1, h2⟩ := rowD_of h.1
  exact ⟨ds, ⟨h1, by rw [← h2]; exact h.2⟩, h2⟩
theorem Vm_bd (hI : Inv μ) (hM : (fL (Op μ)).length ≤ 5) {ds : List Nat} (h : vD (fL (Op μ)).length ds) : -6000000000000 ≤ Vm μ (rowD (Op μ) ds) ∧ Vm μ (rowD (Op μ) ds) ≤ 6000000000000 := by
  have hv := rowD_v hM h
  have := Vr_bd hI (v8 hv).2 (v8 hv).1
  rw [Vr_Vm hI hv.1] at this
  omega
end ROWSET
