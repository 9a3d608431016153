/-! every call is answered alike -/
theorem all_H : pp_H (Rel CaD) := ⟨fun σ μ a1 a2 a3 h => h_thing a1 a2 a3 h,
  fun σ μ a1 a2 a3 h => h_road a1 a2 a3 h,
  fun σ μ a1 a2 h => h_way CaD_ok a1 a2 h,
  fun σ μ a1 a2 h => h_set a1 a2 h,
  fun σ μ a1 h => h_type CaD_ok a1 h,
  fun σ μ h => h_wipe CaD_ok h,
  fun σ μ h => h_fault CaD_ok h,
  fun σ μ h => h_wants CaD_ok h,
  fun σ μ a1 a2 h => h_read CaD_ok a1 a2 h,
  fun σ μ a1 a2 a3 h => h_chance a1 a2 a3 h,
  fun σ μ a1 a2 h => h_shop a1 a2 h,
  fun σ μ a1 h => h_row CaD_ok a1 h,
  fun σ μ a1 h => h_pack CaD_ok a1 h,
  fun σ μ h => h_judged CaD_ok h,
  fun σ μ h => h_hours CaD_ok h,
  fun σ μ a1 a2 a3 a4 a5 h => h_sold CaD_ok a1 a2 a3 a4 a5 h,
  fun σ μ a1 a2 a3 h => h_ask CaD_ok a1 a2 a3 h,
  fun σ μ a1 a2 a3 a4 h => h_value CaD_ok a1 a2 a3 a4 h,
  fun σ μ a1 h => h_gain CaD_ok a1 h,
  fun σ μ a1 h => h_best CaD_ok a1 h,
  fun σ μ a1 a2 h => h_load CaD_ok a1 a2 h,
  fun σ μ a1 h => h_loaded CaD_ok a1 h,
  fun σ μ a1 h => h_round a1 h,
  fun σ μ a1 h => h_rounds a1 h,
  fun σ μ a1 a2 h => h_onward CaD_ok a1 a2 h,
  fun σ μ a1 a2 a3 a4 a5 h => h_trust CaD_ok a1 a2 a3 a4 a5 h,
  fun σ μ a1 h => h_two a1 h,
  fun σ μ a1 h => h_both a1 h,
  fun σ μ a1 a2 h => h_brings CaD_ok a1 a2 h,
  fun σ μ h => h_straps CaD_ok h,
  fun σ μ a1 a2 a3 h => h_sheet CaD_ok a1 a2 a3 h,
  fun σ μ a1 h => h_lose CaD_ok a1 h,
  fun σ μ a1 a2 a3 a4 h => h_put CaD_ok a1 a2 a3 a4 h,
  fun σ μ a1 a2 a3 h => h_get CaD_ok a1 a2 a3 h,
  fun σ μ a1 a2 a3 a4 a5 h => h_copy CaD_ok a1 a2 a3 a4 a5 h,
  fun σ μ a1 h => h_write CaD_ok a1 h,
  fun σ μ a1 h => h_count a1 h,
  fun σ μ h => h_digest CaD_ok h⟩
section BEGIN
variable {σ μ ν : pp_M}
theorem bd_0 {lo hi : Int} (h1 : lo ≤ 0) (h2 : 0 ≤ hi) {x : Int32} (hx : x = 0) : bd x lo hi := by
  rw [hx]
  exact ⟨h1, h2⟩
theorem bd_1 {lo hi : Int} (h1 : lo ≤ 1) (h2 : 1 ≤ hi) {x : Int32} (hx : x = 1) : bd x lo hi := by
  rw [hx]
  exact ⟨h1, h2⟩
theorem begin_rel {s1 s4 s9 s13 s16 s21 s25 s36 μ0 : pp_M} (h1 : ∀ u, u < 6 → s1.1 3 (u * 6 + 0) = 1 ∧ s1.1 3 (u * 6 + 1) = 1 ∧ s1.1 3 (u * 6 + 2) = 0 ∧ ∀ l, l < 3 → s1.1 3 (u * 6 + (3 + l)) = nI (2 + l)) (h4 : (∀ i, s4.1 6 i = 0) ∧ ∀ i, i < 64 → s4.1 8 i = fw (fun _ => 0) i) (h9 : Zr s9) (h13 : ∀ t i, s13.1 t i = 0) (h16 : (∀ i, i < 4 → s16.1 20 i = -1) ∧ ∀ t i, t ≠ 20 → s16.1 t i = 0) (h25 : ∀ i, s25.2 30 i = 0) (h36 : Zr s36) (hm1 : ∀ u, u < 6 → μ0.1 41 u = 1 ∧ μ0.1 42 u = 1 ∧ ∀ l, l < 3 → μ0.1 44 (3 * u + l) = nI (2 + l)) (hm2 : ∀ t i, ¬ (t = 41 ∨ t = 42 ∨ t = 44 ∨ (t = 40 ∧ (i = 6 ∨ i = 7 ∨ i = 8))) → μ0.1 t i = 0) (hm3 : μ0.1 40 6 = 60 ∧ μ0.1 40 7 = 20 ∧ μ0.1 40 8 = 127) {σ0 : pp_M} (hσ : (∀ i, σ0.1 3 i = s1.1 3 i) ∧ (∀ i, σ0.1 6 i = s4.1 6 i) ∧ (∀ i, σ0.1 8 i = s4.1 8 i) ∧ (∀ i, σ0.1 11 i = s9.1 11 i) ∧ (∀ i, σ0.1 12 i = s9.1 12 i) ∧ (∀ i, σ0.1 13 i = s13.1 13 i) ∧ (∀ i, σ0.1 14 i = s13.1 14 i) ∧ (∀ i, σ0.1 16 i = s16.1 16 i) ∧ (∀ i, σ0.1 18 i = s16.1 18 i) ∧ (∀ i, σ0.1 19 i = s16.1 19 i) ∧ (∀ i, σ0.1 20 i = s16.1 20 i) ∧ (∀ i, σ0.1 34 i = 0) ∧ (∀ i, σ0.1 35 i = 0) ∧ (∀ i, σ0.1 36 i = s36.1 36 i) ∧ (∀ i, σ0.2 30 i = s25.2 30 i) ∧ σ0.1 0 10 = 0 ∧ σ0.1 0 11 = 60 ∧ σ0.1 0 12 = 20 ∧ σ0.1 0 13 = 127) : Rel CaD σ0 μ0 := by
  obtain ⟨a3, a6, a8, a11, a12, a13, a14, a16, a18, a19, a20, a34, a35, a36, a30, b10, b11, b12, b13⟩ := hσ
  have e45 : μ0.1 45 = fun _ => 0 := funext fun i => hm2 45 i (by omega)
  refine ⟨⟨fun t ht w hw => ?_, fun t ht l hl => ?_, fun i hi => ?_, fun i hi => ?_, fun t ht => ?_, ⟨?_, fun i hi => ?_⟩, fun s hs => ?_, fun i hi => ?_, ?_, ⟨?_, fun i hi => ?_⟩, fun t ht => ?_, ?_, ?_, ?_⟩, ⟨fun t ht => ?_, fun i hi => ?_, ⟨fun i hi => ?_, fun a b ha hb => ?_⟩, fun i hi => ?_, fun t ht => ?_, ?_, fun s hs => ?_, ⟨?_, fun i hi => ?_⟩, fun t ht => ?_, ?_, ?_, ?_⟩, fun i hi => ?_, Or.inl ?_, fun i hi1 hi2 => ?_⟩
  · obtain ⟨q1, q2, q3, q4⟩ := h1 t ht
    obtain ⟨r1, r2, r3⟩ := hm1 t ht
    rw [a3]
    rcases (show w = 0 ∨ w = 1 ∨ w = 2 by omega) with rfl | rfl | rfl
    · rw [q1]; exact r1.symm
    · rw [q2]; exact r2.symm
    · rw [q3]; exact (hm2 43 t (by omega)).symm
  · rw [a3, (h1 t ht).2.2.2 l hl, (hm1 t ht).2.2 l hl]
  · rw [a6, h4.1, hm2 45 i (by omega)]
  · rw [a11, (h9 11 i).1, hm2 47 i (by omega)]
  · rw [a12, (h9 12 t).1, hm2 48 t (by omega)]
  · rw [a13, h13, hm2 40 11 (by omega)]
  · rw [a14, h13, hm2 49 i (by omega)]
  · refine ⟨by rw [a19, h16.2 19 s (by omega), hm2 67 s (by omega)], Or.inr ⟨hm2 66 s (by omega), by rw [a20]; exact h16.1 s hs⟩⟩
  · rw [a18, h16.2 18 i (by omega), hm2 69 i (by omega)]
  · rw [a16, h16.2 16 3 (by omega), hm2 40 47 (by omega)]
  · rw [b10, hm2 40 19 (by omega)]
  · rw [a34, hm2 53 i (by omega)]
  · rw [a35, hm2 54 t (by omega)]
  · rw [b11, hm3.1]
  · rw [b12, hm3.2.1]
  · rw [b13, hm3.2.2]
  · obtain ⟨r1, r2, r3⟩ := hm1 t ht
    exact ⟨bd_1 (by omega) (by omega) r1, bd_1 (by omega) (by omega) r2, bd_0 (by omega) (by omega) (hm2 43 t (by omega))⟩
  · have q := (hm1 (i / 3) (by omega)).2.2 (i % 3) (by omega)
    rw [show 3 * (i / 3) + i % 3 = i by omega] at q
    unfold bd
    rw [q, nI_toInt (by omega)]
    omega
  · exact bd_0 (by omega) (by omega) (hm2 45 i (by omega))
  · rw [hm2 45 _ (by omega), hm2 45 _ (by omega)]
  · exact bd_0 (by omega) (by omega) (hm2 47 i (by omega))
  · exact bd_0 (by omega) (by omega) (hm2 48 t (by omega))
  · exact bd_0 (by omega) (by omega) (hm2 40 11 (by omega))
  · exact ⟨bd_0 (by omega) (by omega) (hm2 68 s (by omega)), bd_0 (by omega) (by omega) (hm2 67 s (by omega))⟩
  · exact bd_0 (by omega) (by omega) (hm2 40 19 (by omega))
  · exfalso
    rw [hm2 40 19 (by omega)] at hi
    have : (0 : Int32).toInt = 0 := rfl
    omega
  · exact bd_0 (by omega) (by omega) (hm2 54 t (by omega))
  · rw [hm3.1]; exact ⟨by decide, by decide⟩
  · rw [hm3.2.1]; exact ⟨by decide, by decide⟩
  · rw [hm3.2.2]; exact ⟨by decide, by decide⟩
  · rw [a8, h4.2 i hi, e45]
  · rw [a36]; exact (h36 36 6).1
  · rw [a30]; exact h25 i
set_option maxRecDepth 20000 in
theorem whole_start {p : Program} {e : Env} {s : State} {m : MethodId} {below : List Frame} {meth : Method} {c : Code} (l : Launch) (hflags : l.flags = flags0) {b L : Nat} {xs : Nat → Int32} (hL : L ≤ 3072) (C0 : lw_At p s m meth c b L xs) : W p l e room_1 s m #[Value.ref b] below meth c s.heap [] 0 0 (lw_Z below #[Value.ref b] s) (entryFrame m ([Value.ref b] : List Value).toArray 4) := by
  have z1 : Zr (pp_z (pp_z (pp_z pp_0 2) 3) 1) := Zr_z (Zr_z (Zr_z Zr_0 _) _) _
  have z4 : Zr (pp_z (pp_z (pp_z (pp_z (pp_z pp_0 5) 6) 7) 8) 4) := Zr_z (Zr_z (Zr_z (Zr_z (Zr_z Zr_0 _) _) _) _) _
  have z9 : Zr (pp_z (pp_z (pp_z (pp_z pp_0 10) 11) 12) 9) := Zr_z (Zr_z (Zr_z (Zr_z Zr_0 _) _) _) _
  have z13 : Zr (pp_z (pp_z (pp_z pp_0 14) 15) 13) := Zr_z (Zr_z (Zr_z Zr_0 _) _) _
  have z16 : Zr (pp_z (pp_z (pp_z (pp_z (pp_z pp_0 17) 18) 19) 20) 16) := Zr_z (Zr_z (Zr_z (Zr_z (Zr_z Zr_0 _) _) _) _) _
  have z36 : Zr (pp_z (pp_z (pp_z pp_0 37) 38) 36) := Zr_z (Zr_z (Zr_z Zr_0 _) _) _
  have z25 : Zr (pp_z (pp_z (pp_z (pp_z (pp_z (pp_z (pp_z (pp_z (pp_z pp_0 26) 27) 28) 29) 30) 31) 32) 33) 25) := Zr_z (Zr_z (Zr_z (Zr_z (Zr_z (Zr_z (Zr_z (Zr_z (Zr_z Zr_0 _) _) _) _) _) _) _) _) _
  have zM : Zr (pp_z (pp_z (pp_z (pp_z (pp_z (pp_z (pp_z (pp_z (pp_z (pp_z (pp_z (pp_z (pp_z (pp_z (pp_z (pp_z (pp_z (pp_z (pp_z (pp_z (pp_z (pp_z (pp_z (pp_z (pp_z (pp_z (pp_z (pp_z (pp_z (pp_z (pp_z pp_0 41) 42) 43) 44) 45) 46) 47) 48) 49) 50) 51) 52) 53) 54) 55) 56) 57) 58) 59) 60) 61) 62) 63) 64) 65) 66) 67) 68) 69) 70) 40) := by
    repeat' apply Zr_z
    exact Zr_0
  obtain ⟨s1, g1, f1, r1⟩ := k_i18 6 0 100000 (pp_z (pp_z (pp_z pp_0 2) 3) 1) (by omega) (by omega)
  obtain ⟨w, g4, r4⟩ := k_findWays (pp_z (pp_z (pp_z (pp_z (pp_z pp_0 5) 6) 7) 8) 4)
  have g4' : f_X2_init (pp_z (pp_z (pp_z (pp_z (pp_z pp_0 5) 6) 7) 8) 4) = some (ppF (pp_z (pp_z (pp_z (pp_z (pp_z pp_0 5) 6) 7) 8) 4) 8 w) := by
    unfold f_X2_init
    rw [g4, Option.bind_some]
  obtain ⟨s16, g16, f16, r16⟩ := k_i36 4 0 100000 (ppS (pp_z (pp_z (pp_z (pp_z (pp_z pp_0 17) 18) 19) 20) 16) 16 3 (0 : Int32)) (by omega) (by omega) (fun i hi => by omega)
  obtain ⟨μ0, gM, fM, rM⟩ := m_i263 6 0 100000 (ppS (ppS (ppS (pp_z (pp_z (pp_z (pp_z (pp_z (pp_z (pp_z (pp_z (pp_z (pp_z (pp_z (pp_z (pp_z (pp_z (pp_z (pp_z (pp_z (pp_z (pp_z (pp_z (pp_z (pp_z (pp_z (pp_z (pp_z (pp_z (pp_z (pp_z (pp_z (pp_z (pp_z pp_0 41) 42) 43) 44) 45) 46) 47) 48) 49) 50) 51) 52) 53) 54) 55) 56) 57) 58) 59) 60) 61) 62) 63) 64) 65) 66) 67) 68) 69) 70) 40) 40 6 (60 : Int32)) 40 7 (20 : Int32)) 40 8 (127 : Int32)) (by omega) (by omega) (fun u hu => by omega)
  refine law_start l all_H g1 g4' rfl rfl g16 rfl rfl rfl rfl gM ?_ hL C0
  refine begin_rel (s1 := s1) (s4 := ppF (pp_z (pp_z (pp_z (pp_z (pp_z pp_0 5) 6) 7) 8) 4) 8 w) (s9 := pp_z (pp_z (pp_z (pp_z pp_0 10) 11) 12) 9) (s13 := ppS (ppS (ppS (ppS (pp_z (pp_z (pp_z pp_0 14) 15) 13) 13 2 (0 : Int32)) 13 3 (0 : Int32)) 13 4 (0 : Int32)) 13 5 (0 : Int32)) (s16 := s16) (s21 := pp_z (pp_z (pp_z (pp_z pp_0 22) 23) 24) 21) (s25 := ppT (pp_z (pp_z (pp_z (pp_z (pp_z (pp_z (pp_z (pp_z (pp_z pp_0 26) 27) 28) 29) 30) 31) 32) 33) 25) 25 8 (1 : Int64)) (s36 := pp_z (pp_z (pp_z pp_0 37) 38) 36) (fun u hu => ?_) ⟨fun i => ?_, fun i hi => ?_⟩ z9 (fun t i => ?_) ⟨r16, fun t i ht => ?_⟩ (fun i => ?_) z36 rM (fun t i ht => ?_) ⟨?_, ?_, ?_⟩ ⟨fun i => rfl, fun i => rfl, fun i => rfl, fun i => rfl, fun i => rfl, fun i => rfl, fun i => rfl, fun i => rfl, fun i => rfl, fun i => rfl, fun i => rfl, fun i => rfl, fun i => rfl, fun i => rfl, fun i => rfl, rfl, rfl, rfl, rfl⟩
  · obtain ⟨q1, q2, q3, q4⟩ := r1 u (by omega) hu
    exact ⟨q1, q2, by rw [q3]; exact (z1 3 _).1, q4⟩
  · exact (z4 6 i).1
  · rw [pF_rd, r4 i hi]
    rw [show (pp_z (pp_z (pp_z (pp_z (pp_z pp_0 5) 6) 7) 8) 4).1 6 = fun _ => 0 from funext fun j => (z4 6 j).1]
  · have e : ∀ (σ : pp_M) (a : Nat), (∀ t i, σ.1 t i = 0) → ∀ t i, (ppS σ 13 a (0 : Int32)).1 t i = 0 := fun σ a h t i => by
      by_cases q : t = 13 ∧ i = a
      · rw [q.1, q.2, qs_same]
      · rw [qs_ne q]; exact h t i
    exact e _ _ (e _ _ (e _ _ (e _ _ (fun t i => (z13 t i).1)))) t i
  · rw [(f16 t i ht).1]
    by_cases q : t = 16 ∧ i = 3
    · rw [q.1, q.2, qs_same]
    · rw [qs_ne q]; exact (z16 t i).1
  · rw [qt_tok (by omega)]; exact (z25 30 i).2
  · rw [(fM t i (by unfold PM0; omega)).1, qs_ne (by omega), qs_ne (by omega), qs_ne (by omega)]
    exact (zM t i).1
  · rw [(fM 40 6 (by unfold PM0; omega)).1, qs_ne (by omega), qs_ne (by omega), qs_same]
  · rw [(fM 40 7 (by unfold PM0; omega)).1, qs_ne (by omega), qs_same]
  · rw [(fM 40 8 (by unfold PM0; omega)).1, qs_same]
end BEGIN
