/-! X4_chanceOf -/
def f_X4_chanceOf (σ : pp_M) (a1 : Int32) (a2 : Int32) (a3 : Int32) : Option (Int32 × pp_M) :=
  if pp_ix ((a1 * (6 : Int32)) + a2) 48 then
  if pp_ix a3 3 then
  if pp_ix a2 6 then
  if (σ.1 12 a2.toNatClampNeg) < (σ.1 11 ((((a1 * (6 : Int32)) + a2).toNatClampNeg * 3) + a3.toNatClampNeg)) then
    some (((σ.1 11 ((((a1 * (6 : Int32)) + a2).toNatClampNeg * 3) + a3.toNatClampNeg)) - (σ.1 12 a2.toNatClampNeg)), σ)
  else
    some ((0 : Int32), σ)
  else none
  else none
  else none
/-! X0_meanAsked -/
def f_X0_meanAsked (σ : pp_M) (a1 : Int32) (a2 : Int32) (a3 : Int32) (a4 : Int32) (a5 : Int32) : Option (Int64 × pp_M) :=
  if pp_ix (a1 - (1 : Int32)) 8 then
  if a5 = (3 : Int32) then
    if pp_ix ((a3 * (5 : Int32)) + a4) 30 then
    some ((σ.2 23 (((a1 - (1 : Int32)).toNatClampNeg * 30) + ((a3 * (5 : Int32)) + a4).toNatClampNeg)), σ)
    else none
  else
    (f_X4_chanceOf σ a2 a3 a5).bind fun x38 =>
    if pp_ix a3 6 then
    if pp_ix ((3 : Int32) + a5) 6 then
    if pp_ix (((a3 * (5 : Int32)) + a4) - (1 : Int32)) 30 then
    if pp_ix ((a3 * (5 : Int32)) + a4) 30 then
    some (((((x38.1.toInt64) * (((((x38.2.1 3 ((a3.toNatClampNeg * 6) + ((3 : Int32) + a5).toNatClampNeg))).toInt64) * (268435456 : Int64)) + (x38.2.2 23 (((a1 - (1 : Int32)).toNatClampNeg * 30) + (((a3 * (5 : Int32)) + a4) - (1 : Int32)).toNatClampNeg)))) + (((((16 : Int32) - x38.1)).toInt64) * (x38.2.2 23 (((a1 - (1 : Int32)).toNatClampNeg * 30) + ((a3 * (5 : Int32)) + a4).toNatClampNeg)))) / (16 : Int64)), x38.2)
    else none
    else none
    else none
    else none
  else none
/-! X0_bestLevel -/
def f_X0_bestLevel_53 (k18 : pp_M → Int32 → Int32 → Int32 → Int32 → Int32 → Int64 → Int32 → Option (Int32 × pp_M)) (σ : pp_M) (a1 : Int32) (a2 : Int32) (a3 : Int32) (a4 : Int32) (a5 : Int32) (a6 : Int64) (a8 : Int32) : Option (Int32 × pp_M) :=
  k18 σ a1 a2 a3 a4 a5 a6 (a8 + (1 : Int32))
def f_X0_bestLevel_18_B (k18 : pp_M → Int32 → Int32 → Int32 → Int32 → Int32 → Int64 → Int32 → Option (Int32 × pp_M)) (σ : pp_M) (a1 : Int32) (a2 : Int32) (a3 : Int32) (a4 : Int32) (a5 : Int32) (a6 : Int64) (a8 : Int32) : Option (Int32 × pp_M) :=
  if (3 : Int32) < a8 then
    some (a5, σ)
  else
    (f_X0_meanAsked σ a1 a2 a3 a4 a8).bind fun x32 =>
    if a6 < x32.1 then
      f_X0_bestLevel_53 k18 x32.2 a1 a2 a3 a4 a8 x32.1 a8
    else
      f_X0_bestLevel_53 k18 x32.2 a1 a2 a3 a4 a5 a6 a8
def f_X0_bestLevel_18 : Nat → pp_M → Int32 → Int32 → Int32 → Int32 → Int32 → Int64 → Int32 → Option (Int32 × pp_M)
  | 0 => fun _ _ _ _ _ _ _ _ => none
  | n + 1 => fun σ a1 a2 a3 a4 a5 a6 a8 => f_X0_bestLevel_18_B (f_X0_bestLevel_18 n) σ a1 a2 a3 a4 a5 a6 a8
def f_X0_bestLevel (σ : pp_M) (a1 : Int32) (a2 : Int32) (a3 : Int32) (a4 : Int32) : Option (Int32 × pp_M) :=
  (f_X0_meanAsked σ a1 a2 a3 a4 (0 : Int32)).bind fun x10 =>
  f_X0_bestLevel_18 100000 x10.2 a1 a2 a3 a4 (0 : Int32) x10.1 (1 : Int32)
/-! X0_callAt -/
def f_X0_callAt_22_B (k2 : pp_M → Int32 → Int32 → Int32 → Option (pp_M)) (k22 : pp_M → Int32 → Int32 → Int32 → Int32 → Option (pp_M)) (σ : pp_M) (a1 : Int32) (a2 : Int32) (a3 : Int32) (a4 : Int32) : Option (pp_M) :=
  if a4 < (5 : Int32) then
    (f_X0_bestLevel σ a1 a2 a3 a4).bind fun x34 =>
    if pp_ix a1 8 then
    (f_X0_meanAsked x34.2 a1 a2 a3 a4 x34.1).bind fun x59 =>
    if pp_ix ((a3 * (5 : Int32)) + a4) 30 then
    k22 (ppT x59.2 23 ((a1.toNatClampNeg * 30) + ((a3 * (5 : Int32)) + a4).toNatClampNeg) x59.1) a1 a2 a3 (a4 + (1 : Int32))
    else none
    else none
  else
    k2 σ a1 a2 (a3 + (1 : Int32))
def f_X0_callAt_22 (k2 : pp_M → Int32 → Int32 → Int32 → Option (pp_M)) : Nat → pp_M → Int32 → Int32 → Int32 → Int32 → Option (pp_M)
  | 0 => fun _ _ _ _ _ => none
  | n + 1 => fun σ a1 a2 a3 a4 => f_X0_callAt_22_B k2 (f_X0_callAt_22 k2 n) σ a1 a2 a3 a4
def f_X0_callAt_2_B (k2 : pp_M → Int32 → Int32 → Int32 → Option (pp_M)) (σ : pp_M) (a1 : Int32) (a2 : Int32) (a3 : Int32) : Option (pp_M) :=
  if a3 < (6 : Int32) then
    if pp_ix a1 8 then
    if pp_ix (a3 * (5 : Int32)) 30 then
    f_X0_callAt_22 k2 100000 (ppT σ 23 ((a1.toNatClampNeg * 30) + (a3 * (5 : Int32)).toNatClampNeg) (0 : Int64)) a1 a2 a3 (1 : Int32)
    else none
    else none
  else
    some σ
def f_X0_callAt_2 : Nat → pp_M → Int32 → Int32 → Int32 → Option (pp_M)
  | 0 => fun _ _ _ _ => none
  | n + 1 => fun σ a1 a2 a3 => f_X0_callAt_2_B (f_X0_callAt_2 n) σ a1 a2 a3
def f_X0_callAt (σ : pp_M) (a1 : Int32) (a2 : Int32) : Option (pp_M) :=
  f_X0_callAt_2 100000 σ a1 a2 (0 : Int32)
/-! X0_comeHome -/
def f_X0_comeHome_40_B (k2 : pp_M → Int32 → Option (pp_M)) (k40 : pp_M → Int32 → Int64 → Int32 → Option (pp_M)) (σ : pp_M) (a1 : Int32) (a2 : Int64) (a4 : Int32) : Option (pp_M) :=
  if a4 < (5 : Int32) then
    if pp_ix ((a1 * (5 : Int32)) + a4) 30 then
    k40 (ppT σ 23 ((a1 * (5 : Int32)) + a4).toNatClampNeg ((a4.toInt64) * a2)) a1 a2 (a4 + (1 : Int32))
    else none
  else
    k2 σ (a1 + (1 : Int32))
def f_X0_comeHome_40 (k2 : pp_M → Int32 → Option (pp_M)) : Nat → pp_M → Int32 → Int64 → Int32 → Option (pp_M)
  | 0 => fun _ _ _ _ => none
  | n + 1 => fun σ a1 a2 a4 => f_X0_comeHome_40_B k2 (f_X0_comeHome_40 k2 n) σ a1 a2 a4
def f_X0_comeHome_2_B (k2 : pp_M → Int32 → Option (pp_M)) (σ : pp_M) (a1 : Int32) : Option (pp_M) :=
  if a1 < (6 : Int32) then
    if pp_ix a1 6 then
    f_X0_comeHome_40 k2 100000 σ a1 (((((σ.1 3 ((a1.toNatClampNeg * 6) + 0)) - (σ.1 3 ((a1.toNatClampNeg * 6) + 2)))).toInt64) * (268435456 : Int64)) (0 : Int32)
    else none
  else
    some σ
def f_X0_comeHome_2 : Nat → pp_M → Int32 → Option (pp_M)
  | 0 => fun _ _ => none
  | n + 1 => fun σ a1 => f_X0_comeHome_2_B (f_X0_comeHome_2 n) σ a1
def f_X0_comeHome (σ : pp_M)  : Option (pp_M) :=
  f_X0_comeHome_2 100000 σ (0 : Int32)
/-! X0_goAlong -/
def f_X0_goAlong_6_B (k6 : pp_M → Nat → Nat → Nat → Int32 → Int32 → Option (pp_M)) (σ : pp_M) (a1t : Nat) (a1o : Nat) (a1n : Nat) (a2 : Int32) (a3 : Int32) : Option (pp_M) :=
  if a2 < a3 then
    some σ
  else
    if pp_ix (a2 - a3) a1n then
    (f_X0_callAt σ a3 (σ.1 a1t (a1o + (a2 - a3).toNatClampNeg))).bind fun x18 =>
    k6 x18 a1t a1o a1n a2 (a3 + (1 : Int32))
    else none
def f_X0_goAlong_6 : Nat → pp_M → Nat → Nat → Nat → Int32 → Int32 → Option (pp_M)
  | 0 => fun _ _ _ _ _ _ => none
  | n + 1 => fun σ a1t a1o a1n a2 a3 => f_X0_goAlong_6_B (f_X0_goAlong_6 n) σ a1t a1o a1n a2 a3
def f_X0_goAlong (σ : pp_M) (a1t : Nat) (a1o : Nat) (a1n : Nat) (a2 : Int32) : Option (pp_M) :=
  (f_X0_comeHome σ).bind fun x1 =>
  f_X0_goAlong_6 100000 x1 a1t a1o a1n a2 (1 : Int32)
/-! X0_meanSold -/
def f_X0_meanSold_4_B (k4 : pp_M → Int64 → Int32 → Option (Int64 × pp_M)) (σ : pp_M) (a1 : Int64) (a3 : Int32) : Option (Int64 × pp_M) :=
  if a3 < (5 : Int32) then
    if pp_ix a3 5 then
    k4 σ (a1 + ((a3.toInt64) * (σ.2 24 a3.toNatClampNeg))) (a3 + (1 : Int32))
    else none
  else
    some (a1, σ)
def f_X0_meanSold_4 : Nat → pp_M → Int64 → Int32 → Option (Int64 × pp_M)
  | 0 => fun _ _ _ => none
  | n + 1 => fun σ a1 a3 => f_X0_meanSold_4_B (f_X0_meanSold_4 n) σ a1 a3
def f_X0_meanSold (σ : pp_M)  : Option (Int64 × pp_M) :=
  f_X0_meanSold_4 100000 σ (0 : Int64) (1 : Int32)
/-! X0_sell -/
def f_X0_sell_66_B (k37 : pp_M → Int32 → Int32 → Int32 → Nat → Nat → Nat → Int32 → Int32 → Option (pp_M)) (k66 : pp_M → Int32 → Int32 → Int32 → Nat → Nat → Nat → Int32 → Int32 → Int64 → Int32 → Option (pp_M)) (σ : pp_M) (a1 : Int32) (a2 : Int32) (a3 : Int32) (a4t : Nat) (a4o : Nat) (a4n : Nat) (a5 : Int32) (a6 : Int32) (a7 : Int64) (a9 : Int32) : Option (pp_M) :=
  if a9 < 0 then
    k37 σ a1 a2 a3 a4t a4o a4n a5 (a6 + (1 : Int32))
  else
    if pp_ix a9 5 then
    if pp_ix (a9 + (1 : Int32)) 5 then
    k66 (ppT (ppT σ 24 (a9 + (1 : Int32)).toNatClampNeg ((σ.2 24 (a9 + (1 : Int32)).toNatClampNeg) + (((σ.2 24 a9.toNatClampNeg) * a7) / (16 : Int64)))) 24 a9.toNatClampNeg (((ppT σ 24 (a9 + (1 : Int32)).toNatClampNeg ((σ.2 24 (a9 + (1 : Int32)).toNatClampNeg) + (((σ.2 24 a9.toNatClampNeg) * a7) / (16 : Int64)))).2 24 a9.toNatClampNeg) - (((σ.2 24 a9.toNatClampNeg) * a7) / (16 : Int64)))) a1 a2 a3 a4t a4o a4n a5 a6 a7 (a9 + (-1 : Int32))
    else none
    else none
def f_X0_sell_66 (k37 : pp_M → Int32 → Int32 → Int32 → Nat → Nat → Nat → Int32 → Int32 → Option (pp_M)) : Nat → pp_M → Int32 → Int32 → Int32 → Nat → Nat → Nat → Int32 → Int32 → Int64 → Int32 → Option (pp_M)
  | 0 => fun _ _ _ _ _ _ _ _ _ _ _ => none
  | n + 1 => fun σ a1 a2 a3 a4t a4o a4n a5 a6 a7 a9 => f_X0_sell_66_B k37 (f_X0_sell_66 k37 n) σ a1 a2 a3 a4t a4o a4n a5 a6 a7 a9
def f_X0_sell_37_B (k37 : pp_M → Int32 → Int32 → Int32 → Nat → Nat → Nat → Int32 → Int32 → Option (pp_M)) (σ : pp_M) (a1 : Int32) (a2 : Int32) (a3 : Int32) (a4t : Nat) (a4o : Nat) (a4n : Nat) (a5 : Int32) (a6 : Int32) : Option (pp_M) :=
  if a6 < a5 then
    if pp_ix a6 a4n then
    (f_X4_chanceOf σ (σ.1 a4t (a4o + a6.toNatClampNeg)) a1 a3).bind fun x55 =>
    f_X0_sell_66 k37 100000 x55.2 a1 a2 a3 a4t a4o a4n a5 a6 (x55.1.toInt64) (a2 - (1 : Int32))
    else none
  else
    some σ
def f_X0_sell_37 : Nat → pp_M → Int32 → Int32 → Int32 → Nat → Nat → Nat → Int32 → Int32 → Option (pp_M)
  | 0 => fun _ _ _ _ _ _ _ _ _ => none
  | n + 1 => fun σ a1 a2 a3 a4t a4o a4n a5 a6 => f_X0_sell_37_B (f_X0_sell_37 n) σ a1 a2 a3 a4t a4o a4n a5 a6
def f_X0_sell_27 (k3 : pp_M → Int32 → Int32 → Int32 → Nat → Nat → Nat → Int32 → Int32 → Option (pp_M)) (σ : pp_M) (a1 : Int32) (a2 : Int32) (a3 : Int32) (a4t : Nat) (a4o : Nat) (a4n : Nat) (a5 : Int32) (a6 : Int32) (b1 : Int32) (b2 : Int64) : Option (pp_M) :=
  if pp_ix b1 5 then
  k3 (ppT σ 24 b1.toNatClampNeg b2) a1 a2 a3 a4t a4o a4n a5 (a6 + (1 : Int32))
  else none
def f_X0_sell_3_B (k3 : pp_M → Int32 → Int32 → Int32 → Nat → Nat → Nat → Int32 → Int32 → Option (pp_M)) (σ : pp_M) (a1 : Int32) (a2 : Int32) (a3 : Int32) (a4t : Nat) (a4o : Nat) (a4n : Nat) (a5 : Int32) (a6 : Int32) : Option (pp_M) :=
  if a6 < (5 : Int32) then
    if a6 = 0 then
      f_X0_sell_27 k3 σ a1 a2 a3 a4t a4o a4n a5 a6 a6 (268435456 : Int64)
    else
      f_X0_sell_27 k3 σ a1 a2 a3 a4t a4o a4n a5 a6 a6 (0 : Int64)
  else
    f_X0_sell_37 100000 σ a1 a2 a3 a4t a4o a4n a5 (0 : Int32)
def f_X0_sell_3 : Nat → pp_M → Int32 → Int32 → Int32 → Nat → Nat → Nat → Int32 → Int32 → Option (pp_M)
  | 0 => fun _ _ _ _ _ _ _ _ _ => none
  | n + 1 => fun σ a1 a2 a3 a4t a4o a4n a5 a6 => f_X0_sell_3_B (f_X0_sell_3 n) σ a1 a2 a3 a4t a4o a4n a5 a6
def f_X0_sell (σ : pp_M) (a1 : Int32) (a2 : Int32) (a3 : Int32) (a4t : Nat) (a4o : Nat) (a4n : Nat) (a5 : Int32) : Option (pp_M) :=
  f_X0_sell_3 100000 σ a1 a2 a3 a4t a4o a4n a5 (0 : Int32)
/-! X8_within -/
def f_X8_within (σ : pp_M) (a0 : Int32) (a1 : Int32) (a2 : Int32) : Option (Int32 × pp_M) :=
  if a0 < a1 then
    some ((0 : Int32), σ)
  else
    if a2 < a0 then
      some ((0 : Int32), σ)
    else
      some ((1 : Int32), σ)
/-! X1_mayBe -/
def f_X1_mayBe_59 (σ : pp_M) (a3 : Int32) (a4 : Int32) (b0 : Int32) : Option (Int32 × pp_M) :=
  (f_X8_within σ a3 a4 b0).bind fun x66 =>
  if pp_b x66.1 then
  some (x66.1, x66.2)
  else none
def f_X1_mayBe_57 (σ : pp_M) (a3 : Int32) (a4 : Int32) : Option (Int32 × pp_M) :=
  f_X1_mayBe_59 σ a3 a4 (99 : Int32)
def f_X1_mayBe_32 (σ : pp_M) (a1 : Int32) (a2 : Int32) (a3 : Int32) (b0 : Int32) : Option (Int32 × pp_M) :=
  if a2 < (3 : Int32) then
    f_X1_mayBe_57 σ a3 b0
  else
    if a2 < (5 : Int32) then
      if pp_ix a1 6 then
      if pp_ix (a2 + (1 : Int32)) 6 then
      f_X1_mayBe_59 σ a3 b0 (σ.1 3 ((a1.toNatClampNeg * 6) + (a2 + (1 : Int32)).toNatClampNeg))
      else none
      else none
    else
      f_X1_mayBe_57 σ a3 b0
def f_X1_mayBe (σ : pp_M) (a1 : Int32) (a2 : Int32) (a3 : Int32) : Option (Int32 × pp_M) :=
  if a2 = (1 : Int32) then
    (f_X8_within σ a3 (1 : Int32) (20 : Int32)).bind fun x9 =>
    if pp_b x9.1 then
    some (x9.1, x9.2)
    else none
  else
    if (3 : Int32) < a2 then
      if pp_ix a1 6 then
      if pp_ix (a2 - (1 : Int32)) 6 then
      f_X1_mayBe_32 σ a1 a2 a3 (σ.1 3 ((a1.toNatClampNeg * 6) + (a2 - (1 : Int32)).toNatClampNeg))
      else none
      else none
    else
      f_X1_mayBe_32 σ a1 a2 a3 (0 : Int32)
/-! X1_weightOf -/
def f_X1_weightOf_4_B (k4 : pp_M → Nat → Nat → Nat → Int32 → Int32 → Option (Int32 × pp_M)) (σ : pp_M) (a1t : Nat) (a1o : Nat) (a1n : Nat) (a2 : Int32) (a3 : Int32) : Option (Int32 × pp_M) :=
  if a3 < (6 : Int32) then
    if pp_ix a3 a1n then
    if pp_ix a3 6 then
    k4 σ a1t a1o a1n (a2 + ((σ.1 a1t (a1o + a3.toNatClampNeg)) * (σ.1 3 ((a3.toNatClampNeg * 6) + 1)))) (a3 + (1 : Int32))
    else none
    else none
  else
    some (a2, σ)
def f_X1_weightOf_4 : Nat → pp_M → Nat → Nat → Nat → Int32 → Int32 → Option (Int32 × pp_M)
  | 0 => fun _ _ _ _ _ _ => none
  | n + 1 => fun σ a1t a1o a1n a2 a3 => f_X1_weightOf_4_B (f_X1_weightOf_4 n) σ a1t a1o a1n a2 a3
def f_X1_weightOf (σ : pp_M) (a1t : Nat) (a1o : Nat) (a1n : Nat) : Option (Int32 × pp_M) :=
  f_X1_weightOf_4 100000 σ a1t a1o a1n (0 : Int32) (0 : Int32)
/-! X2_findWays -/
def f_X2_findWays_88_B (k72 : pp_M → Int32 → Option (pp_M)) (k80 : pp_M → Int32 → Int32 → Option (pp_M)) (k88 : pp_M → Int32 → Int32 → Int32 → Option (pp_M)) (σ : pp_M) (a1 : Int32) (a2 : Int32) (a3 : Int32) : Option (pp_M) :=
  if a3 < (8 : Int32) then
    if pp_ix a2 8 then
    if pp_ix a3 8 then
    if pp_ix a1 8 then
    k88 (ppS σ 8 ((a2.toNatClampNeg * 8) + a3.toNatClampNeg) (if ((σ.1 8 ((a2.toNatClampNeg * 8) + a1.toNatClampNeg)) + (σ.1 8 ((a1.toNatClampNeg * 8) + a3.toNatClampNeg))) < (σ.1 8 ((a2.toNatClampNeg * 8) + a3.toNatClampNeg)) then ((σ.1 8 ((a2.toNatClampNeg * 8) + a1.toNatClampNeg)) + (σ.1 8 ((a1.toNatClampNeg * 8) + a3.toNatClampNeg))) else (σ.1 8 ((a2.toNatClampNeg * 8) + a3.toNatClampNeg)))) a1 a2 (a3 + (1 : Int32))
    else none
    else none
    else none
  else
    k80 σ a1 (a2 + (1 : Int32))
def f_X2_findWays_88 (k72 : pp_M → Int32 → Option (pp_M)) (k80 : pp_M → Int32 → Int32 → Option (pp_M)) : Nat → pp_M → Int32 → Int32 → Int32 → Option (pp_M)
  | 0 => fun _ _ _ _ => none
  | n + 1 => fun σ a1 a2 a3 => f_X2_findWays_88_B k72 k80 (f_X2_findWays_88 k72 k80 n) σ a1 a2 a3
def f_X2_findWays_80_B (k72 : pp_M → Int32 → Option (pp_M)) (k80 : pp_M → Int32 → Int32 → Option (pp_M)) (σ : pp_M) (a1 : Int32) (a2 : Int32) : Option (pp_M) :=
  if a2 < (8 : Int32) then
    f_X2_findWays_88 k72 k80 100000 σ a1 a2 (0 : Int32)
  else
    k72 σ (a1 + (1 : Int32))
def f_X2_findWays_80 (k72 : pp_M → Int32 → Option (pp_M)) : Nat → pp_M → Int32 → Int32 → Option (pp_M)
  | 0 => fun _ _ _ => none
  | n + 1 => fun σ a1 a2 => f_X2_findWays_80_B k72 (f_X2_findWays_80 k72 n) σ a1 a2
def f_X2_findWays_72_B (k72 : pp_M → Int32 → Option (pp_M)) (σ : pp_M) (a1 : Int32) : Option (pp_M) :=
  if a1 < (8 : Int32) then
    f_X2_findWays_80 k72 100000 σ a1 (0 : Int32)
  else
    some σ
def f_X2_findWays_72 : Nat → pp_M → Int32 → Option (pp_M)
  | 0 => fun _ _ => none
  | n + 1 => fun σ a1 => f_X2_findWays_72_B (f_X2_findWays_72 n) σ a1
def f_X2_findWays_57 (k2 : pp_M → Int32 → Option (pp_M)) (k10 : pp_M → Int32 → Int32 → Option (pp_M)) (σ : pp_M) (a1 : Int32) (a2 : Int32) (b0o : Nat) (b1 : Int32) (b2 : Int32) : Option (pp_M) :=
  if pp_ix b1 8 then
  k10 (ppS σ 8 (b0o + b1.toNatClampNeg) b2) a1 (a2 + (1 : Int32))
  else none
def f_X2_findWays_10_B (k2 : pp_M → Int32 → Option (pp_M)) (k10 : pp_M → Int32 → Int32 → Option (pp_M)) (σ : pp_M) (a1 : Int32) (a2 : Int32) : Option (pp_M) :=
  if a2 < (8 : Int32) then
    if pp_ix a1 8 then
    if a1 = a2 then
      f_X2_findWays_57 k2 k10 σ a1 a2 (a1.toNatClampNeg * 8) a2 (0 : Int32)
    else
      if pp_ix a2 8 then
      if 0 < (σ.1 6 ((a1.toNatClampNeg * 8) + a2.toNatClampNeg)) then
        f_X2_findWays_57 k2 k10 σ a1 a2 (a1.toNatClampNeg * 8) a2 (σ.1 6 ((a1.toNatClampNeg * 8) + a2.toNatClampNeg))
      else
        f_X2_findWays_57 k2 k10 σ a1 a2 (a1.toNatClampNeg * 8) a2 (1000 : Int32)
      else none
    else none
  else
    k2 σ (a1 + (1 : Int32))
def f_X2_findWays_10 (k2 : pp_M → Int32 → Option (pp_M)) : Nat → pp_M → Int32 → Int32 → Option (pp_M)
  | 0 => fun _ _ _ => none
  | n + 1 => fun σ a1 a2 => f_X2_findWays_10_B k2 (f_X2_findWays_10 k2 n) σ a1 a2
def f_X2_findWays_2_B (k2 : pp_M → Int32 → Option (pp_M)) (σ : pp_M) (a1 : Int32) : Option (pp_M) :=
  if a1 < (8 : Int32) then
    f_X2_findWays_10 k2 100000 σ a1 (0 : Int32)
  else
    f_X2_findWays_72 100000 σ (0 : Int32)
def f_X2_findWays_2 : Nat → pp_M → Int32 → Option (pp_M)
  | 0 => fun _ _ => none
  | n + 1 => fun σ a1 => f_X2_findWays_2_B (f_X2_findWays_2 n) σ a1
def f_X2_findWays (σ : pp_M)  : Option (pp_M) :=
  f_X2_findWays_2 100000 σ (0 : Int32)
/-! X2_build -/
def f_X2_build (σ : pp_M) (a1 : Int32) (a2 : Int32) (a3 : Int32) : Option (pp_M) :=
  if pp_ix a1 8 then
  if pp_ix a2 8 then
  (f_X2_findWays (ppS (ppS σ 6 ((a1.toNatClampNeg * 8) + a2.toNatClampNeg) a3) 6 ((a2.toNatClampNeg * 8) + a1.toNatClampNeg) a3)).bind fun x19 =>
  some x19
  else none
  else none
/-! X2_countRoads -/
def f_X2_countRoads_34 (k4 : pp_M → Int32 → Int32 → Option (Int32 × pp_M)) (k12 : pp_M → Int32 → Int32 → Int32 → Option (Int32 × pp_M)) (σ : pp_M) (a2 : Int32) (a3 : Int32) (b0 : Int32) (b1 : Int32) : Option (Int32 × pp_M) :=
  k12 σ (b0 + b1) a2 (a3 + (1 : Int32))
def f_X2_countRoads_12_B (k4 : pp_M → Int32 → Int32 → Option (Int32 × pp_M)) (k12 : pp_M → Int32 → Int32 → Int32 → Option (Int32 × pp_M)) (σ : pp_M) (a1 : Int32) (a2 : Int32) (a3 : Int32) : Option (Int32 × pp_M) :=
  if a3 < a2 then
    if pp_ix a2 8 then
    if pp_ix a3 8 then
    if 0 < (σ.1 6 ((a2.toNatClampNeg * 8) + a3.toNatClampNeg)) then
      f_X2_countRoads_34 k4 k12 σ a2 a3 a1 (1 : Int32)
    else
      f_X2_countRoads_34 k4 k12 σ a2 a3 a1 (0 : Int32)
    else none
    else none
  else
    k4 σ a1 (a2 + (1 : Int32))
def f_X2_countRoads_12 (k4 : pp_M → Int32 → Int32 → Option (Int32 × pp_M)) : Nat → pp_M → Int32 → Int32 → Int32 → Option (Int32 × pp_M)
  | 0 => fun _ _ _ _ => none
  | n + 1 => fun σ a1 a2 a3 => f_X2_countRoads_12_B k4 (f_X2_countRoads_12 k4 n) σ a1 a2 a3
def f_X2_countRoads_4_B (k4 : pp_M → Int32 → Int32 → Option (Int32 × pp_M)) (σ : pp_M) (a1 : Int32) (a2 : Int32) : Option (Int32 × pp_M) :=
  if a2 < (8 : Int32) then
    f_X2_countRoads_12 k4 100000 σ a1 a2 (0 : Int32)
  else
    some (a1, σ)
def f_X2_countRoads_4 : Nat → pp_M → Int32 → Int32 → Option (Int32 × pp_M)
  | 0 => fun _ _ _ => none
  | n + 1 => fun σ a1 a2 => f_X2_countRoads_4_B (f_X2_countRoads_4 n) σ a1 a2
def f_X2_countRoads (σ : pp_M)  : Option (Int32 × pp_M) :=
  f_X2_countRoads_4 100000 σ (0 : Int32) (0 : Int32)
/-! X2_hoursOf -/
def f_X2_hoursOf_8_B (k8 : pp_M → Nat → Nat → Nat → Int32 → Int32 → Int32 → Int32 → Option (Int32 × pp_M)) (σ : pp_M) (a1t : Nat) (a1o : Nat) (a1n : Nat) (a2 : Int32) (a3 : Int32) (a4 : Int32) (a5 : Int32) : Option (Int32 × pp_M) :=
  if a5 < a2 then
    if pp_ix a4 8 then
    if pp_ix a5 a1n then
    if pp_ix (σ.1 a1t (a1o + a5.toNatClampNeg)) 8 then
    k8 σ a1t a1o a1n a2 (a3 + (σ.1 8 ((a4.toNatClampNeg * 8) + (σ.1 a1t (a1o + a5.toNatClampNeg)).toNatClampNeg))) (σ.1 a1t (a1o + a5.toNatClampNeg)) (a5 + (1 : Int32))
    else none
    else none
    else none
  else
    if pp_ix a4 8 then
    some ((a3 + (σ.1 8 ((a4.toNatClampNeg * 8) + 0))), σ)
    else none
def f_X2_hoursOf_8 : Nat → pp_M → Nat → Nat → Nat → Int32 → Int32 → Int32 → Int32 → Option (Int32 × pp_M)
  | 0 => fun _ _ _ _ _ _ _ _ => none
  | n + 1 => fun σ a1t a1o a1n a2 a3 a4 a5 => f_X2_hoursOf_8_B (f_X2_hoursOf_8 n) σ a1t a1o a1n a2 a3 a4 a5
def f_X2_hoursOf (σ : pp_M) (a1t : Nat) (a1o : Nat) (a1n : Nat) (a2 : Int32) : Option (Int32 × pp_M) :=
  f_X2_hoursOf_8 100000 σ a1t a1o a1n a2 (0 : Int32) (0 : Int32) (0 : Int32)
/-! X3_append -/
def f_X3_append (σ : pp_M) (a1 : Int32) : Option (Int32 × pp_M) :=
  if (σ.1 13 5) < (40 : Int32) then
    if pp_ix (σ.1 13 5) 40 then
    some ((1 : Int32), ppS (ppS σ 14 (σ.1 13 5).toNatClampNeg a1) 13 5 (((ppS σ 14 (σ.1 13 5).toNatClampNeg a1).1 13 5) + (1 : Int32)))
    else none
  else
    some ((0 : Int32), σ)
/-! X3_figureAt -/
def f_X3_figureAt (σ : pp_M) (a1 : Int32) : Option (Int32 × pp_M) :=
  if a1 < (σ.1 13 5) then
    if pp_ix a1 40 then
    (f_X8_within σ (σ.1 14 a1.toNatClampNeg) (48 : Int32) (57 : Int32)).bind fun x18 =>
    if x18.1 = 0 then
      some ((-1 : Int32), x18.2)
    else
      some (((x18.2.1 14 a1.toNatClampNeg) - (48 : Int32)), x18.2)
    else none
  else
    some ((-1 : Int32), σ)
/-! X3_isAt -/
def f_X3_isAt (σ : pp_M) (a1 : Int32) (a2 : Int32) : Option (Int32 × pp_M) :=
  if a1 < (σ.1 13 5) then
    if pp_ix a1 40 then
    if (σ.1 14 a1.toNatClampNeg) = a2 then
      some ((1 : Int32), σ)
    else
      some ((0 : Int32), σ)
    else none
  else
    some ((0 : Int32), σ)
/-! X3_readChances -/
def f_X3_readChances_146 (σ : pp_M)  : Option (Int32 × pp_M) :=
  some ((-1 : Int32), σ)
def f_X3_readChances_115 (k8 : pp_M → Int32 → Int32 → Int32 → Option (Int32 × pp_M)) (σ : pp_M) (a3 : Int32) (a4 : Int32) (b0 : Int32) (b1 : Int32) : Option (Int32 × pp_M) :=
  k8 σ (b0 + b1) a3 (a4 + (1 : Int32))
def f_X3_readChances_80 (k8 : pp_M → Int32 → Int32 → Int32 → Option (Int32 × pp_M)) (σ : pp_M) (a2 : Int32) (a3 : Int32) (a4 : Int32) (a5 : Int32) (a6 : Int32) : Option (Int32 × pp_M) :=
  (f_X8_within σ a5 (0 : Int32) a3).bind fun x84 =>
  if x84.1 = 0 then
    some (a2, x84.2)
  else
    if pp_ix a4 3 then
    if a6 < 0 then
      f_X3_readChances_115 k8 (ppS x84.2 15 a4.toNatClampNeg a5) a5 a4 a2 (1 : Int32)
    else
      f_X3_readChances_115 k8 (ppS x84.2 15 a4.toNatClampNeg a5) a5 a4 a2 (2 : Int32)
    else none
def f_X3_readChances_42 (k8 : pp_M → Int32 → Int32 → Int32 → Option (Int32 × pp_M)) (σ : pp_M) (a3 : Int32) (a4 : Int32) (b0 : Int32) (b1 : Int32) : Option (Int32 × pp_M) :=
  (f_X3_figureAt σ (b0 + b1)).bind fun x46 =>
  (f_X3_figureAt x46.2 ((b0 + b1) + (1 : Int32))).bind fun x55 =>
  if x46.1 < 0 then
    f_X3_readChances_80 k8 x55.2 (b0 + b1) a3 a4 x46.1 x55.1
  else
    if x55.1 < 0 then
      f_X3_readChances_80 k8 x55.2 (b0 + b1) a3 a4 x46.1 x55.1
    else
      f_X3_readChances_80 k8 x55.2 (b0 + b1) a3 a4 (((10 : Int32) * x46.1) + x55.1) x55.1
def f_X3_readChances_31 (k8 : pp_M → Int32 → Int32 → Int32 → Option (Int32 × pp_M)) (σ : pp_M) (a2 : Int32) (a3 : Int32) (a4 : Int32) : Option (Int32 × pp_M) :=
  if 0 < a4 then
    f_X3_readChances_42 k8 σ a3 a4 a2 (1 : Int32)
  else
    f_X3_readChances_42 k8 σ a3 a4 a2 (0 : Int32)
def f_X3_readChances_8_B (k8 : pp_M → Int32 → Int32 → Int32 → Option (Int32 × pp_M)) (σ : pp_M) (a2 : Int32) (a3 : Int32) (a4 : Int32) : Option (Int32 × pp_M) :=
  if a4 < (3 : Int32) then
    if 0 < a4 then
      (f_X3_isAt σ a2 (44 : Int32)).bind fun x23 =>
      if x23.1 = 0 then
        some (a2, x23.2)
      else
        f_X3_readChances_31 k8 x23.2 a2 a3 a4
    else
      f_X3_readChances_31 k8 σ a2 a3 a4
  else
    if a2 < ((ppS σ 13 4 a2).1 13 5) then
      (f_X3_isAt (ppS σ 13 4 a2) a2 (59 : Int32)).bind fun x140 =>
      if x140.1 = 0 then
        some (a2, x140.2)
      else
        f_X3_readChances_146 x140.2
    else
      f_X3_readChances_146 (ppS σ 13 4 a2)
def f_X3_readChances_8 : Nat → pp_M → Int32 → Int32 → Int32 → Option (Int32 × pp_M)
  | 0 => fun _ _ _ _ => none
  | n + 1 => fun σ a2 a3 a4 => f_X3_readChances_8_B (f_X3_readChances_8 n) σ a2 a3 a4
def f_X3_readChances (σ : pp_M) (a1 : Int32) : Option (Int32 × pp_M) :=
  f_X3_readChances_8 100000 σ a1 (16 : Int32) (0 : Int32)
/-! X8_isFarm -/
def f_X8_isFarm (σ : pp_M) (a0 : Int32) : Option (Int32 × pp_M) :=
  (f_X8_within σ a0 (1 : Int32) (7 : Int32)).bind fun x4 =>
  if pp_b x4.1 then
  some (x4.1, x4.2)
  else none
/-! X8_isThing -/
def f_X8_isThing (σ : pp_M) (a0 : Int32) : Option (Int32 × pp_M) :=
  (f_X8_within σ a0 (0 : Int32) (5 : Int32)).bind fun x3 =>
  if pp_b x3.1 then
  some (x3.1, x3.2)
  else none
/-! X3_readPart -/
def f_X3_readPart (σ : pp_M) (a1 : Int32) : Option (Int32 × pp_M) :=
  (f_X3_figureAt σ a1).bind fun x3 =>
  (f_X8_isFarm (ppS x3.2 13 2 x3.1) ((ppS x3.2 13 2 x3.1).1 13 2)).bind fun x13 =>
  if x13.1 = 0 then
    some (a1, x13.2)
  else
    (f_X3_isAt x13.2 (a1 + (1 : Int32)) (58 : Int32)).bind fun x27 =>
    if x27.1 = 0 then
      some ((a1 + (1 : Int32)), x27.2)
    else
      (f_X3_figureAt x27.2 (a1 + (2 : Int32))).bind fun x42 =>
      (f_X8_isThing (ppS x42.2 13 3 x42.1) ((ppS x42.2 13 3 x42.1).1 13 3)).bind fun x52 =>
      if x52.1 = 0 then
        some ((a1 + (2 : Int32)), x52.2)
      else
        (f_X3_isAt x52.2 (a1 + (3 : Int32)) (61 : Int32)).bind fun x68 =>
        if x68.1 = 0 then
          some ((a1 + (3 : Int32)), x68.2)
        else
          (f_X3_readChances x68.2 (a1 + (4 : Int32))).bind fun x82 =>
          some (x82.1, x82.2)
/-! X3_findFault -/
def f_X3_findFault_4_B (k4 : pp_M → Int32 → Int32 → Option (Int32 × pp_M)) (σ : pp_M) (a1 : Int32) (a2 : Int32) : Option (Int32 × pp_M) :=
  if a2 < (40 : Int32) then
    (f_X3_readPart σ a1).bind fun x12 =>
    if x12.1 = (-1 : Int32) then
      if (x12.2.1 13 4) < (x12.2.1 13 5) then
        k4 x12.2 ((x12.2.1 13 4) + (1 : Int32)) (a2 + (1 : Int32))
      else
        some (x12.1, x12.2)
    else
      some (x12.1, x12.2)
  else
    some (a1, σ)
def f_X3_findFault_4 : Nat → pp_M → Int32 → Int32 → Option (Int32 × pp_M)
  | 0 => fun _ _ _ => none
  | n + 1 => fun σ a1 a2 => f_X3_findFault_4_B (f_X3_findFault_4 n) σ a1 a2
def f_X3_findFault (σ : pp_M)  : Option (Int32 × pp_M) :=
  f_X3_findFault_4 100000 σ (0 : Int32) (0 : Int32)
/-! X4_take -/
def f_X4_take_49_B (k49 : pp_M → Int32 → Int32 → Nat → Nat → Nat → Int32 → Int32 → Option (Int32 × pp_M)) (σ : pp_M) (a1 : Int32) (a2 : Int32) (a3t : Nat) (a3o : Nat) (a3n : Nat) (a4 : Int32) (a6 : Int32) : Option (Int32 × pp_M) :=
  if a6 < (3 : Int32) then
    if pp_ix ((a1 * (6 : Int32)) + a2) 48 then
    if pp_ix (a4 + a6) a3n then
    if pp_ix a6 3 then
    k49 (ppS σ 11 ((((a1 * (6 : Int32)) + a2).toNatClampNeg * 3) + a6.toNatClampNeg) (σ.1 a3t (a3o + (a4 + a6).toNatClampNeg))) a1 a2 a3t a3o a3n a4 (a6 + (1 : Int32))
    else none
    else none
    else none
  else
    some ((1 : Int32), σ)
def f_X4_take_49 : Nat → pp_M → Int32 → Int32 → Nat → Nat → Nat → Int32 → Int32 → Option (Int32 × pp_M)
  | 0 => fun _ _ _ _ _ _ _ _ => none
  | n + 1 => fun σ a1 a2 a3t a3o a3n a4 a6 => f_X4_take_49_B (f_X4_take_49 n) σ a1 a2 a3t a3o a3n a4 a6
def f_X4_take_7_B (k7 : pp_M → Int32 → Int32 → Nat → Nat → Nat → Int32 → Int32 → Int32 → Option (Int32 × pp_M)) (σ : pp_M) (a1 : Int32) (a2 : Int32) (a3t : Nat) (a3o : Nat) (a3n : Nat) (a4 : Int32) (a5 : Int32) (a6 : Int32) : Option (Int32 × pp_M) :=
  if a6 < (3 : Int32) then
    if pp_ix (a4 + a6) a3n then
    (f_X8_within σ (σ.1 a3t (a3o + (a4 + a6).toNatClampNeg)) (0 : Int32) a5).bind fun x23 =>
    if x23.1 = 0 then
      some ((0 : Int32), x23.2)
    else
      k7 x23.2 a1 a2 a3t a3o a3n a4 (x23.2.1 a3t (a3o + (a4 + a6).toNatClampNeg)) (a6 + (1 : Int32))
    else none
  else
    f_X4_take_49 100000 σ a1 a2 a3t a3o a3n a4 (0 : Int32)
def f_X4_take_7 : Nat → pp_M → Int32 → Int32 → Nat → Nat → Nat → Int32 → Int32 → Int32 → Option (Int32 × pp_M)
  | 0 => fun _ _ _ _ _ _ _ _ _ => none
  | n + 1 => fun σ a1 a2 a3t a3o a3n a4 a5 a6 => f_X4_take_7_B (f_X4_take_7 n) σ a1 a2 a3t a3o a3n a4 a5 a6
def f_X4_take (σ : pp_M) (a1 : Int32) (a2 : Int32) (a3t : Nat) (a3o : Nat) (a3n : Nat) (a4 : Int32) : Option (Int32 × pp_M) :=
  f_X4_take_7 100000 σ a1 a2 a3t a3o a3n a4 (16 : Int32) (0 : Int32)
/-! X3_tellTo -/
def f_X3_tellTo_4_B (k4 : pp_M → Int32 → Int32 → Option (Int32 × pp_M)) (σ : pp_M) (a2 : Int32) (a3 : Int32) : Option (Int32 × pp_M) :=
  if a2 < (40 : Int32) then
    if a3 < (σ.1 13 5) then
      (f_X3_readPart σ a3).bind fun x20 =>
      if x20.1 = (-1 : Int32) then
        (f_X4_take x20.2 (x20.2.1 13 2) (x20.2.1 13 3) 15 0 3 (0 : Int32)).bind fun x41 =>
        k4 x41.2 (a2 + (1 : Int32)) ((x41.2.1 13 4) + (1 : Int32))
      else
        some (a2, x20.2)
    else
      some (a2, σ)
  else
    some (a2, σ)
def f_X3_tellTo_4 : Nat → pp_M → Int32 → Int32 → Option (Int32 × pp_M)
  | 0 => fun _ _ _ => none
  | n + 1 => fun σ a2 a3 => f_X3_tellTo_4_B (f_X3_tellTo_4 n) σ a2 a3
def f_X3_tellTo (σ : pp_M)  : Option (Int32 × pp_M) :=
  f_X3_tellTo_4 100000 σ (0 : Int32) (0 : Int32)
/-! X4_countChances -/
def f_X4_countChances_44 (k4 : pp_M → Int32 → Int32 → Option (Int32 × pp_M)) (k12 : pp_M → Int32 → Int32 → Int32 → Option (Int32 × pp_M)) (k21 : pp_M → Int32 → Int32 → Int32 → Int32 → Option (Int32 × pp_M)) (σ : pp_M) (a2 : Int32) (a3 : Int32) (a4 : Int32) (b0 : Int32) (b1 : Int32) : Option (Int32 × pp_M) :=
  k21 σ (b0 + b1) a2 a3 (a4 + (1 : Int32))
def f_X4_countChances_21_B (k4 : pp_M → Int32 → Int32 → Option (Int32 × pp_M)) (k12 : pp_M → Int32 → Int32 → Int32 → Option (Int32 × pp_M)) (k21 : pp_M → Int32 → Int32 → Int32 → Int32 → Option (Int32 × pp_M)) (σ : pp_M) (a1 : Int32) (a2 : Int32) (a3 : Int32) (a4 : Int32) : Option (Int32 × pp_M) :=
  if a4 < (3 : Int32) then
    (f_X4_chanceOf σ a2 a3 a4).bind fun x33 =>
    if 0 < x33.1 then
      f_X4_countChances_44 k4 k12 k21 x33.2 a2 a3 a4 a1 (1 : Int32)
    else
      f_X4_countChances_44 k4 k12 k21 x33.2 a2 a3 a4 a1 (0 : Int32)
  else
    k12 σ a1 a2 (a3 + (1 : Int32))
def f_X4_countChances_21 (k4 : pp_M → Int32 → Int32 → Option (Int32 × pp_M)) (k12 : pp_M → Int32 → Int32 → Int32 → Option (Int32 × pp_M)) : Nat → pp_M → Int32 → Int32 → Int32 → Int32 → Option (Int32 × pp_M)
  | 0 => fun _ _ _ _ _ => none
  | n + 1 => fun σ a1 a2 a3 a4 => f_X4_countChances_21_B k4 k12 (f_X4_countChances_21 k4 k12 n) σ a1 a2 a3 a4
def f_X4_countChances_12_B (k4 : pp_M → Int32 → Int32 → Option (Int32 × pp_M)) (k12 : pp_M → Int32 → Int32 → Int32 → Option (Int32 × pp_M)) (σ : pp_M) (a1 : Int32) (a2 : Int32) (a3 : Int32) : Option (Int32 × pp_M) :=
  if a3 < (6 : Int32) then
    f_X4_countChances_21 k4 k12 100000 σ a1 a2 a3 (0 : Int32)
  else
    k4 σ a1 (a2 + (1 : Int32))
def f_X4_countChances_12 (k4 : pp_M → Int32 → Int32 → Option (Int32 × pp_M)) : Nat → pp_M → Int32 → Int32 → Int32 → Option (Int32 × pp_M)
  | 0 => fun _ _ _ _ => none
  | n + 1 => fun σ a1 a2 a3 => f_X4_countChances_12_B k4 (f_X4_countChances_12 k4 n) σ a1 a2 a3
def f_X4_countChances_4_B (k4 : pp_M → Int32 → Int32 → Option (Int32 × pp_M)) (σ : pp_M) (a1 : Int32) (a2 : Int32) : Option (Int32 × pp_M) :=
  if (7 : Int32) < a2 then
    some (a1, σ)
  else
    f_X4_countChances_12 k4 100000 σ a1 a2 (0 : Int32)
def f_X4_countChances_4 : Nat → pp_M → Int32 → Int32 → Option (Int32 × pp_M)
  | 0 => fun _ _ _ => none
  | n + 1 => fun σ a1 a2 => f_X4_countChances_4_B (f_X4_countChances_4 n) σ a1 a2
def f_X4_countChances (σ : pp_M)  : Option (Int32 × pp_M) :=
  f_X4_countChances_4 100000 σ (0 : Int32) (1 : Int32)
/-! X5_leastNumber -/
def f_X5_leastNumber_15_B (k15 : pp_M → Int32 → Int32 → Int32 → Int32 → Option (Int32 × pp_M)) (σ : pp_M) (a1 : Int32) (a2 : Int32) (a3 : Int32) (a4 : Int32) : Option (Int32 × pp_M) :=
  if pp_ix a1 6 then
  if (σ.1 28 a1.toNatClampNeg) < a4 then
    some ((0 : Int32), σ)
  else
    if a2 < (a4 * a3) then
      some ((0 : Int32), σ)
    else
      if pp_ix a4 5 then
      if pp_ix (a1 + (1 : Int32)) 7 then
      if pp_ix (a2 - (a4 * a3)) 101 then
      if pp_ix a1 7 then
      if pp_ix a2 101 then
      if ((σ.2 27 ((a1.toNatClampNeg * 5) + a4.toNatClampNeg)) + (σ.2 30 (((a1 + (1 : Int32)).toNatClampNeg * 101) + (a2 - (a4 * a3)).toNatClampNeg))) = (σ.2 30 ((a1.toNatClampNeg * 101) + a2.toNatClampNeg)) then
        some (a4, σ)
      else
        k15 σ a1 a2 a3 (a4 + (1 : Int32))
      else none
      else none
      else none
      else none
      else none
  else none
def f_X5_leastNumber_15 : Nat → pp_M → Int32 → Int32 → Int32 → Int32 → Option (Int32 × pp_M)
  | 0 => fun _ _ _ _ _ => none
  | n + 1 => fun σ a1 a2 a3 a4 => f_X5_leastNumber_15_B (f_X5_leastNumber_15 n) σ a1 a2 a3 a4
def f_X5_leastNumber (σ : pp_M) (a1 : Int32) (a2 : Int32) : Option (Int32 × pp_M) :=
  if pp_ix a1 6 then
  f_X5_leastNumber_15 100000 σ a1 a2 (σ.1 3 ((a1.toNatClampNeg * 6) + 1)) (0 : Int32)
  else none
/-! X5_fillMost -/
def f_X5_fillMost_92 (k26 : pp_M → Int32 → Int32 → Int32 → Int32 → Nat → Int32 → Option (pp_M)) (σ : pp_M) (a1 : Int32) (a2 : Int32) (a3 : Int32) (a4 : Int32) (a5o : Nat) (a6 : Int32) (a7 : Int64) : Option (pp_M) :=
  if pp_ix a1 7 then
  if pp_ix a6 101 then
  k26 (ppT σ 30 ((a1.toNatClampNeg * 101) + a6.toNatClampNeg) a7) a1 a2 a3 a4 a5o (a6 + (1 : Int32))
  else none
  else none
def f_X5_fillMost_42_B (k26 : pp_M → Int32 → Int32 → Int32 → Int32 → Nat → Int32 → Option (pp_M)) (k42 : pp_M → Int32 → Int32 → Int32 → Int32 → Nat → Int32 → Int64 → Int32 → Option (pp_M)) (σ : pp_M) (a1 : Int32) (a2 : Int32) (a3 : Int32) (a4 : Int32) (a5o : Nat) (a6 : Int32) (a7 : Int64) (a9 : Int32) : Option (pp_M) :=
  if a3 < a9 then
    f_X5_fillMost_92 k26 σ a1 a2 a3 a4 a5o a6 a7
  else
    if a6 < (a9 * a4) then
      f_X5_fillMost_92 k26 σ a1 a2 a3 a4 a5o a6 a7
    else
      if pp_ix a1 6 then
      if pp_ix a9 5 then
      if pp_ix (a6 - (a9 * a4)) 101 then
      k42 σ a1 a2 a3 a4 a5o a6 (if ((σ.2 27 ((a1.toNatClampNeg * 5) + a9.toNatClampNeg)) + (σ.2 30 (a5o + (a6 - (a9 * a4)).toNatClampNeg))) < a7 then a7 else ((σ.2 27 ((a1.toNatClampNeg * 5) + a9.toNatClampNeg)) + (σ.2 30 (a5o + (a6 - (a9 * a4)).toNatClampNeg)))) (a9 + (1 : Int32))
      else none
      else none
      else none
def f_X5_fillMost_42 (k26 : pp_M → Int32 → Int32 → Int32 → Int32 → Nat → Int32 → Option (pp_M)) : Nat → pp_M → Int32 → Int32 → Int32 → Int32 → Nat → Int32 → Int64 → Int32 → Option (pp_M)
  | 0 => fun _ _ _ _ _ _ _ _ _ => none
  | n + 1 => fun σ a1 a2 a3 a4 a5o a6 a7 a9 => f_X5_fillMost_42_B k26 (f_X5_fillMost_42 k26 n) σ a1 a2 a3 a4 a5o a6 a7 a9
def f_X5_fillMost_26_B (k26 : pp_M → Int32 → Int32 → Int32 → Int32 → Nat → Int32 → Option (pp_M)) (σ : pp_M) (a1 : Int32) (a2 : Int32) (a3 : Int32) (a4 : Int32) (a5o : Nat) (a6 : Int32) : Option (pp_M) :=
  if a2 < a6 then
    some σ
  else
    if pp_ix a6 101 then
    f_X5_fillMost_42 k26 100000 σ a1 a2 a3 a4 a5o a6 (σ.2 30 (a5o + a6.toNatClampNeg)) (1 : Int32)
    else none
def f_X5_fillMost_26 : Nat → pp_M → Int32 → Int32 → Int32 → Int32 → Nat → Int32 → Option (pp_M)
  | 0 => fun _ _ _ _ _ _ _ => none
  | n + 1 => fun σ a1 a2 a3 a4 a5o a6 => f_X5_fillMost_26_B (f_X5_fillMost_26 n) σ a1 a2 a3 a4 a5o a6
def f_X5_fillMost (σ : pp_M) (a1 : Int32) (a2 : Int32) (a3 : Int32) : Option (pp_M) :=
  if pp_ix a1 6 then
  if pp_ix (a1 + (1 : Int32)) 7 then
  f_X5_fillMost_26 100000 σ a1 a2 a3 (σ.1 3 ((a1.toNatClampNeg * 6) + 1)) ((a1 + (1 : Int32)).toNatClampNeg * 101) (0 : Int32)
  else none
  else none
/-! X5_mostGain -/
def f_X5_mostGain_24 (k2 : pp_M → Int32 → Int32 → Int32 → Option (Int64 × pp_M)) (σ : pp_M) (a1 : Int32) (a2 : Int32) (a3 : Int32) (b1 : Int32) (b2 : Int32) (b3 : Int32) : Option (Int64 × pp_M) :=
  (f_X5_fillMost σ b1 b2 b3).bind fun x24 =>
  k2 x24 a1 a2 (a3 + (-1 : Int32))
def f_X5_mostGain_2_B (k2 : pp_M → Int32 → Int32 → Int32 → Option (Int64 × pp_M)) (σ : pp_M) (a1 : Int32) (a2 : Int32) (a3 : Int32) : Option (Int64 × pp_M) :=
  if a3 < 0 then
    if pp_ix a1 101 then
    some ((σ.2 30 a1.toNatClampNeg), σ)
    else none
  else
    if a3 = a2 then
      f_X5_mostGain_24 k2 σ a1 a2 a3 a3 a1 (0 : Int32)
    else
      if pp_ix a3 6 then
      f_X5_mostGain_24 k2 σ a1 a2 a3 a3 a1 (σ.1 28 a3.toNatClampNeg)
      else none
def f_X5_mostGain_2 : Nat → pp_M → Int32 → Int32 → Int32 → Option (Int64 × pp_M)
  | 0 => fun _ _ _ _ => none
  | n + 1 => fun σ a1 a2 a3 => f_X5_mostGain_2_B (f_X5_mostGain_2 n) σ a1 a2 a3
def f_X5_mostGain (σ : pp_M) (a1 : Int32) (a2 : Int32) : Option (Int64 × pp_M) :=
  f_X5_mostGain_2 100000 σ a1 a2 (5 : Int32)
/-! X5_chooseBest -/
def f_X5_chooseBest_39_B (k39 : pp_M → Int32 → Int32 → Option (pp_M)) (σ : pp_M) (a4 : Int32) (a5 : Int32) : Option (pp_M) :=
  if a5 < (6 : Int32) then
    (f_X5_leastNumber σ a5 a4).bind fun x57 =>
    if pp_ix a5 6 then
    k39 (ppS x57.2 32 a5.toNatClampNeg x57.1) (a4 - (((ppS x57.2 32 a5.toNatClampNeg x57.1).1 32 a5.toNatClampNeg) * ((ppS x57.2 32 a5.toNatClampNeg x57.1).1 3 ((a5.toNatClampNeg * 6) + 1)))) (a5 + (1 : Int32))
    else none
  else
    some σ
def f_X5_chooseBest_39 : Nat → pp_M → Int32 → Int32 → Option (pp_M)
  | 0 => fun _ _ _ => none
  | n + 1 => fun σ a4 a5 => f_X5_chooseBest_39_B (f_X5_chooseBest_39 n) σ a4 a5
def f_X5_chooseBest_36 (σ : pp_M) (a4 : Int32) : Option (pp_M) :=
  f_X5_chooseBest_39 100000 σ a4 (0 : Int32)
def f_X5_chooseBest_10_B (k10 : pp_M → Int32 → Int64 → Int32 → Option (pp_M)) (σ : pp_M) (a1 : Int32) (a2 : Int64) (a4 : Int32) : Option (pp_M) :=
  if a4 < a1 then
    if pp_ix a4 101 then
    if (σ.2 30 a4.toNatClampNeg) < a2 then
      k10 σ a1 a2 (a4 + (1 : Int32))
    else
      f_X5_chooseBest_36 σ a4
    else none
  else
    f_X5_chooseBest_36 σ a4
def f_X5_chooseBest_10 : Nat → pp_M → Int32 → Int64 → Int32 → Option (pp_M)
  | 0 => fun _ _ _ _ => none
  | n + 1 => fun σ a1 a2 a4 => f_X5_chooseBest_10_B (f_X5_chooseBest_10 n) σ a1 a2 a4
def f_X5_chooseBest (σ : pp_M) (a1 : Int32) : Option (pp_M) :=
  (f_X5_mostGain σ a1 (-1 : Int32)).bind fun x3 =>
  f_X5_chooseBest_10 100000 x3.2 a1 x3.1 (0 : Int32)
/-! X5_stepGain -/
def f_X5_stepGain (σ : pp_M) (a1 : Int32) (a2 : Int32) : Option (Int64 × pp_M) :=
  if pp_ix a1 6 then
  if pp_ix (a2 + (1 : Int32)) 5 then
  if pp_ix a2 5 then
  some (((σ.2 27 ((a1.toNatClampNeg * 5) + (a2 + (1 : Int32)).toNatClampNeg)) - (σ.2 27 ((a1.toNatClampNeg * 5) + a2.toNatClampNeg))), σ)
  else none
  else none
  else none
/-! X5_nextLoaded -/
def f_X5_nextLoaded_88 (k10 : pp_M → Int32 → Int32 → Int64 → Int32 → Int32 → Option (Int32 × pp_M)) (σ : pp_M) (a1 : Int32) (a2 : Int32) (a3 : Int64) (a5 : Int32) (a6 : Int32) : Option (Int32 × pp_M) :=
  k10 σ a1 a2 a3 a5 (a6 + (1 : Int32))
def f_X5_nextLoaded_10_B (k10 : pp_M → Int32 → Int32 → Int64 → Int32 → Int32 → Option (Int32 × pp_M)) (σ : pp_M) (a1 : Int32) (a2 : Int32) (a3 : Int64) (a5 : Int32) (a6 : Int32) : Option (Int32 × pp_M) :=
  if a6 < (6 : Int32) then
    if pp_ix a6 6 then
    if (σ.1 33 a6.toNatClampNeg) < (4 : Int32) then
      if a1 < (σ.1 3 ((a6.toNatClampNeg * 6) + 1)) then
        f_X5_nextLoaded_88 k10 σ a1 a2 a3 a5 a6
      else
        (f_X5_stepGain σ a6 (σ.1 33 a6.toNatClampNeg)).bind fun x58 =>
        if (a3 * (((σ.1 3 ((a6.toNatClampNeg * 6) + 1))).toInt64)) < (x58.1 * (a5.toInt64)) then
          f_X5_nextLoaded_88 k10 x58.2 a1 a6 x58.1 (σ.1 3 ((a6.toNatClampNeg * 6) + 1)) a6
        else
          f_X5_nextLoaded_88 k10 x58.2 a1 a2 a3 a5 a6
    else
      f_X5_nextLoaded_88 k10 σ a1 a2 a3 a5 a6
    else none
  else
    some (a2, σ)
def f_X5_nextLoaded_10 : Nat → pp_M → Int32 → Int32 → Int64 → Int32 → Int32 → Option (Int32 × pp_M)
  | 0 => fun _ _ _ _ _ _ => none
  | n + 1 => fun σ a1 a2 a3 a5 a6 => f_X5_nextLoaded_10_B (f_X5_nextLoaded_10 n) σ a1 a2 a3 a5 a6
def f_X5_nextLoaded (σ : pp_M) (a1 : Int32) : Option (Int32 × pp_M) :=
  f_X5_nextLoaded_10 100000 σ a1 (-1 : Int32) (0 : Int64) (1 : Int32) (0 : Int32)
/-! X5_chooseLoaded -/
def f_X5_chooseLoaded_25_B (k25 : pp_M → Int32 → Int32 → Option (pp_M)) (σ : pp_M) (a2 : Int32) (a3 : Int32) : Option (pp_M) :=
  if a3 < (24 : Int32) then
    (f_X5_nextLoaded σ a2).bind fun x33 =>
    if x33.1 = (-1 : Int32) then
      some x33.2
    else
      if pp_ix x33.1 6 then
      k25 (ppS x33.2 33 x33.1.toNatClampNeg ((x33.2.1 33 x33.1.toNatClampNeg) + (1 : Int32))) (a2 - ((ppS x33.2 33 x33.1.toNatClampNeg ((x33.2.1 33 x33.1.toNatClampNeg) + (1 : Int32))).1 3 ((x33.1.toNatClampNeg * 6) + 1))) (a3 + (1 : Int32))
      else none
  else
    some σ
def f_X5_chooseLoaded_25 : Nat → pp_M → Int32 → Int32 → Option (pp_M)
  | 0 => fun _ _ _ => none
  | n + 1 => fun σ a2 a3 => f_X5_chooseLoaded_25_B (f_X5_chooseLoaded_25 n) σ a2 a3
def f_X5_chooseLoaded_4_B (k4 : pp_M → Int32 → Int32 → Option (pp_M)) (σ : pp_M) (a2 : Int32) (a3 : Int32) : Option (pp_M) :=
  if a3 < (6 : Int32) then
    if pp_ix a3 6 then
    k4 (ppS σ 33 a3.toNatClampNeg (0 : Int32)) a2 (a3 + (1 : Int32))
    else none
  else
    f_X5_chooseLoaded_25 100000 σ a2 (0 : Int32)
def f_X5_chooseLoaded_4 : Nat → pp_M → Int32 → Int32 → Option (pp_M)
  | 0 => fun _ _ _ => none
  | n + 1 => fun σ a2 a3 => f_X5_chooseLoaded_4_B (f_X5_chooseLoaded_4 n) σ a2 a3
def f_X5_chooseLoaded (σ : pp_M) (a1 : Int32) : Option (pp_M) :=
  f_X5_chooseLoaded_4 100000 σ a1 (0 : Int32)
/-! X5_nextStep -/
def f_X5_nextStep_82 (k10 : pp_M → Int32 → Int64 → Int32 → Int32 → Option (Int32 × pp_M)) (σ : pp_M) (a1 : Int32) (a2 : Int64) (a4 : Int32) (a5 : Int32) : Option (Int32 × pp_M) :=
  k10 σ a1 a2 a4 (a5 + (1 : Int32))
def f_X5_nextStep_10_B (k10 : pp_M → Int32 → Int64 → Int32 → Int32 → Option (Int32 × pp_M)) (σ : pp_M) (a1 : Int32) (a2 : Int64) (a4 : Int32) (a5 : Int32) : Option (Int32 × pp_M) :=
  if a5 < (24 : Int32) then
    if pp_ix (a5 / (4 : Int32)) 6 then
    (f_X5_stepGain σ (a5 / (4 : Int32)) (a5 - a5 / (4 : Int32) * (4 : Int32))).bind fun x42 =>
    if pp_ix a5 24 then
    if (x42.2.1 31 a5.toNatClampNeg) = 0 then
      if (a2 * (((σ.1 3 (((a5 / (4 : Int32)).toNatClampNeg * 6) + 1))).toInt64)) < (x42.1 * (a4.toInt64)) then
        f_X5_nextStep_82 k10 x42.2 a5 x42.1 (σ.1 3 (((a5 / (4 : Int32)).toNatClampNeg * 6) + 1)) a5
      else
        f_X5_nextStep_82 k10 x42.2 a1 a2 a4 a5
    else
      f_X5_nextStep_82 k10 x42.2 a1 a2 a4 a5
    else none
    else none
  else
    some (a1, σ)
def f_X5_nextStep_10 : Nat → pp_M → Int32 → Int64 → Int32 → Int32 → Option (Int32 × pp_M)
  | 0 => fun _ _ _ _ _ => none
  | n + 1 => fun σ a1 a2 a4 a5 => f_X5_nextStep_10_B (f_X5_nextStep_10 n) σ a1 a2 a4 a5
def f_X5_nextStep (σ : pp_M)  : Option (Int32 × pp_M) :=
  f_X5_nextStep_10 100000 σ (-1 : Int32) (0 : Int64) (1 : Int32) (0 : Int32)
/-! X5_findBound -/
def f_X5_findBound_147 (k37 : pp_M → Int32 → Int32 → Option (pp_M)) (σ : pp_M) (a2 : Int32) (a3 : Int32) (a7 : Int32) : Option (pp_M) :=
  k37 σ (a2 - a7) (a3 + (1 : Int32))
def f_X5_findBound_37_B (k37 : pp_M → Int32 → Int32 → Option (pp_M)) (σ : pp_M) (a2 : Int32) (a3 : Int32) : Option (pp_M) :=
  if a3 < (24 : Int32) then
    if 0 < a2 then
      (f_X5_nextStep σ).bind fun x48 =>
      if x48.1 = (-1 : Int32) then
        some x48.2
      else
        if pp_ix x48.1 24 then
        (f_X5_stepGain (ppS x48.2 31 x48.1.toNatClampNeg (1 : Int32)) (x48.1 / (4 : Int32)) (x48.1 - x48.1 / (4 : Int32) * (4 : Int32))).bind fun x77 =>
        if pp_ix (x48.1 / (4 : Int32)) 6 then
        if a2 < (x77.2.1 3 (((x48.1 / (4 : Int32)).toNatClampNeg * 6) + 1)) then
          f_X5_findBound_147 k37 (ppT (ppT x77.2 25 7 (((x77.2.2 25 7) * (((x77.2.1 3 (((x48.1 / (4 : Int32)).toNatClampNeg * 6) + 1))).toInt64)) + (x77.1 * (a2.toInt64)))) 25 8 ((268435456 : Int64) * (((x77.2.1 3 (((x48.1 / (4 : Int32)).toNatClampNeg * 6) + 1))).toInt64))) a2 a3 (x77.2.1 3 (((x48.1 / (4 : Int32)).toNatClampNeg * 6) + 1))
        else
          f_X5_findBound_147 k37 (ppT x77.2 25 7 ((x77.2.2 25 7) + x77.1)) a2 a3 (x77.2.1 3 (((x48.1 / (4 : Int32)).toNatClampNeg * 6) + 1))
        else none
        else none
    else
      some σ
  else
    some σ
def f_X5_findBound_37 : Nat → pp_M → Int32 → Int32 → Option (pp_M)
  | 0 => fun _ _ _ => none
  | n + 1 => fun σ a2 a3 => f_X5_findBound_37_B (f_X5_findBound_37 n) σ a2 a3
def f_X5_findBound_2_B (k2 : pp_M → Int32 → Int32 → Option (pp_M)) (σ : pp_M) (a1 : Int32) (a2 : Int32) : Option (pp_M) :=
  if a2 < (24 : Int32) then
    if pp_ix a2 24 then
    k2 (ppS σ 31 a2.toNatClampNeg (0 : Int32)) a1 (a2 + (1 : Int32))
    else none
  else
    f_X5_findBound_37 100000 (ppT (ppT σ 25 7 (0 : Int64)) 25 8 (268435456 : Int64)) a1 (0 : Int32)
def f_X5_findBound_2 : Nat → pp_M → Int32 → Int32 → Option (pp_M)
  | 0 => fun _ _ _ => none
  | n + 1 => fun σ a1 a2 => f_X5_findBound_2_B (f_X5_findBound_2 n) σ a1 a2
def f_X5_findBound (σ : pp_M) (a1 : Int32) : Option (pp_M) :=
  f_X5_findBound_2 100000 σ a1 (0 : Int32)
/-! X5_gainOf -/
def f_X5_gainOf_5_B (k5 : pp_M → Nat → Nat → Nat → Int64 → Int32 → Option (Int64 × pp_M)) (σ : pp_M) (a1t : Nat) (a1o : Nat) (a1n : Nat) (a2 : Int64) (a4 : Int32) : Option (Int64 × pp_M) :=
  if a4 < (6 : Int32) then
    if pp_ix a4 6 then
    if pp_ix a4 a1n then
    if pp_ix (σ.1 a1t (a1o + a4.toNatClampNeg)) 5 then
    k5 σ a1t a1o a1n (a2 + (σ.2 27 ((a4.toNatClampNeg * 5) + (σ.1 a1t (a1o + a4.toNatClampNeg)).toNatClampNeg))) (a4 + (1 : Int32))
    else none
    else none
    else none
  else
    some (a2, σ)
def f_X5_gainOf_5 : Nat → pp_M → Nat → Nat → Nat → Int64 → Int32 → Option (Int64 × pp_M)
  | 0 => fun _ _ _ _ _ _ => none
  | n + 1 => fun σ a1t a1o a1n a2 a4 => f_X5_gainOf_5_B (f_X5_gainOf_5 n) σ a1t a1o a1n a2 a4
def f_X5_gainOf (σ : pp_M) (a1t : Nat) (a1o : Nat) (a1n : Nat) : Option (Int64 × pp_M) :=
  f_X5_gainOf_5 100000 σ a1t a1o a1n (0 : Int64) (0 : Int32)
/-! X5_leastBringing -/
def f_X5_leastBringing_96 (k20 : pp_M → Int32 → Int32 → Int64 → Int32 → Int64 → Int32 → Option (Int32 × pp_M)) (σ : pp_M) (a1 : Int32) (a2 : Int32) (a3 : Int64) (a5 : Int32) (a6 : Int64) (a8 : Int32) : Option (Int32 × pp_M) :=
  k20 σ a1 a2 a3 a5 a6 (a8 + (1 : Int32))
def f_X5_leastBringing_86 (k20 : pp_M → Int32 → Int32 → Int64 → Int32 → Int64 → Int32 → Option (Int32 × pp_M)) (σ : pp_M) (a1 : Int32) (a6 : Int64) (a8 : Int32) (a9 : Int32) (a10 : Int64) : Option (Int32 × pp_M) :=
  f_X5_leastBringing_96 k20 σ a1 a8 a10 a9 a6 a8
def f_X5_leastBringing_20_B (k20 : pp_M → Int32 → Int32 → Int64 → Int32 → Int64 → Int32 → Option (Int32 × pp_M)) (σ : pp_M) (a1 : Int32) (a2 : Int32) (a3 : Int64) (a5 : Int32) (a6 : Int64) (a8 : Int32) : Option (Int32 × pp_M) :=
  if a8 < (6 : Int32) then
    if pp_ix a8 6 then
    if 0 < ((σ.1 32 a8.toNatClampNeg) * (σ.1 3 ((a8.toNatClampNeg * 6) + 1))) then
      (f_X5_mostGain σ a1 a8).bind fun x60 =>
      if a2 = (-1 : Int32) then
        f_X5_leastBringing_86 k20 x60.2 a1 a6 a8 ((σ.1 32 a8.toNatClampNeg) * (σ.1 3 ((a8.toNatClampNeg * 6) + 1))) (a6 - x60.1)
      else
        if ((a6 - x60.1) * (a5.toInt64)) < (a3 * ((((σ.1 32 a8.toNatClampNeg) * (σ.1 3 ((a8.toNatClampNeg * 6) + 1)))).toInt64)) then
          f_X5_leastBringing_86 k20 x60.2 a1 a6 a8 ((σ.1 32 a8.toNatClampNeg) * (σ.1 3 ((a8.toNatClampNeg * 6) + 1))) (a6 - x60.1)
        else
          f_X5_leastBringing_96 k20 x60.2 a1 a2 a3 a5 a6 a8
    else
      f_X5_leastBringing_96 k20 σ a1 a2 a3 a5 a6 a8
    else none
  else
    some (a2, σ)
def f_X5_leastBringing_20 : Nat → pp_M → Int32 → Int32 → Int64 → Int32 → Int64 → Int32 → Option (Int32 × pp_M)
  | 0 => fun _ _ _ _ _ _ _ => none
  | n + 1 => fun σ a1 a2 a3 a5 a6 a8 => f_X5_leastBringing_20_B (f_X5_leastBringing_20 n) σ a1 a2 a3 a5 a6 a8
def f_X5_leastBringing (σ : pp_M) (a1 : Int32) : Option (Int32 × pp_M) :=
  (f_X5_gainOf σ 32 0 6).bind fun x12 =>
  f_X5_leastBringing_20 100000 x12.2 a1 (-1 : Int32) (0 : Int64) (1 : Int32) x12.1 (0 : Int32)
/-! X5_peakGain -/
def f_X5_peakGain (σ : pp_M)  : Option (Int64 × pp_M) :=
  (f_X5_gainOf σ 28 0 6).bind fun x5 =>
  some (x5.1, x5.2)
/-! X5_peaksFit -/
def f_X5_peaksFit (σ : pp_M) (a1 : Int32) : Option (Int32 × pp_M) :=
  (f_X1_weightOf σ 28 0 6).bind fun x8 =>
  if a1 < x8.1 then
    some ((0 : Int32), x8.2)
  else
    some ((1 : Int32), x8.2)
/-! X5_weighGains -/
def f_X5_weighGains_88 (k2 : pp_M → Nat → Nat → Nat → Int32 → Option (pp_M)) (k17 : pp_M → Nat → Nat → Nat → Int32 → Int32 → Option (pp_M)) (σ : pp_M) (a1t : Nat) (a1o : Nat) (a1n : Nat) (a2 : Int32) (a3 : Int32) : Option (pp_M) :=
  k17 σ a1t a1o a1n a2 (a3 + (1 : Int32))
def f_X5_weighGains_17_B (k2 : pp_M → Nat → Nat → Nat → Int32 → Option (pp_M)) (k17 : pp_M → Nat → Nat → Nat → Int32 → Int32 → Option (pp_M)) (σ : pp_M) (a1t : Nat) (a1o : Nat) (a1n : Nat) (a2 : Int32) (a3 : Int32) : Option (pp_M) :=
  if a3 < (5 : Int32) then
    if pp_ix a2 6 then
    if pp_ix ((a2 * (5 : Int32)) + a3) a1n then
    if pp_ix a3 5 then
    if pp_ix ((ppT σ 27 ((a2.toNatClampNeg * 5) + a3.toNatClampNeg) ((σ.2 a1t (a1o + ((a2 * (5 : Int32)) + a3).toNatClampNeg)) - ((((a3 * (σ.1 3 ((a2.toNatClampNeg * 6) + 0)))).toInt64) * (268435456 : Int64)))).1 28 a2.toNatClampNeg) 5 then
    if ((ppT σ 27 ((a2.toNatClampNeg * 5) + a3.toNatClampNeg) ((σ.2 a1t (a1o + ((a2 * (5 : Int32)) + a3).toNatClampNeg)) - ((((a3 * (σ.1 3 ((a2.toNatClampNeg * 6) + 0)))).toInt64) * (268435456 : Int64)))).2 27 ((a2.toNatClampNeg * 5) + ((ppT σ 27 ((a2.toNatClampNeg * 5) + a3.toNatClampNeg) ((σ.2 a1t (a1o + ((a2 * (5 : Int32)) + a3).toNatClampNeg)) - ((((a3 * (σ.1 3 ((a2.toNatClampNeg * 6) + 0)))).toInt64) * (268435456 : Int64)))).1 28 a2.toNatClampNeg).toNatClampNeg)) < ((ppT σ 27 ((a2.toNatClampNeg * 5) + a3.toNatClampNeg) ((σ.2 a1t (a1o + ((a2 * (5 : Int32)) + a3).toNatClampNeg)) - ((((a3 * (σ.1 3 ((a2.toNatClampNeg * 6) + 0)))).toInt64) * (268435456 : Int64)))).2 27 ((a2.toNatClampNeg * 5) + a3.toNatClampNeg)) then
      f_X5_weighGains_88 k2 k17 (ppS (ppT σ 27 ((a2.toNatClampNeg * 5) + a3.toNatClampNeg) ((σ.2 a1t (a1o + ((a2 * (5 : Int32)) + a3).toNatClampNeg)) - ((((a3 * (σ.1 3 ((a2.toNatClampNeg * 6) + 0)))).toInt64) * (268435456 : Int64)))) 28 a2.toNatClampNeg a3) a1t a1o a1n a2 a3
    else
      f_X5_weighGains_88 k2 k17 (ppT σ 27 ((a2.toNatClampNeg * 5) + a3.toNatClampNeg) ((σ.2 a1t (a1o + ((a2 * (5 : Int32)) + a3).toNatClampNeg)) - ((((a3 * (σ.1 3 ((a2.toNatClampNeg * 6) + 0)))).toInt64) * (268435456 : Int64)))) a1t a1o a1n a2 a3
    else none
    else none
    else none
    else none
  else
    k2 σ a1t a1o a1n (a2 + (1 : Int32))
def f_X5_weighGains_17 (k2 : pp_M → Nat → Nat → Nat → Int32 → Option (pp_M)) : Nat → pp_M → Nat → Nat → Nat → Int32 → Int32 → Option (pp_M)
  | 0 => fun _ _ _ _ _ _ => none
  | n + 1 => fun σ a1t a1o a1n a2 a3 => f_X5_weighGains_17_B k2 (f_X5_weighGains_17 k2 n) σ a1t a1o a1n a2 a3
def f_X5_weighGains_2_B (k2 : pp_M → Nat → Nat → Nat → Int32 → Option (pp_M)) (σ : pp_M) (a1t : Nat) (a1o : Nat) (a1n : Nat) (a2 : Int32) : Option (pp_M) :=
  if a2 < (6 : Int32) then
    if pp_ix a2 6 then
    f_X5_weighGains_17 k2 100000 (ppS σ 28 a2.toNatClampNeg (0 : Int32)) a1t a1o a1n a2 (0 : Int32)
    else none
  else
    some σ
def f_X5_weighGains_2 : Nat → pp_M → Nat → Nat → Nat → Int32 → Option (pp_M)
  | 0 => fun _ _ _ _ _ => none
  | n + 1 => fun σ a1t a1o a1n a2 => f_X5_weighGains_2_B (f_X5_weighGains_2 n) σ a1t a1o a1n a2
def f_X5_weighGains (σ : pp_M) (a1t : Nat) (a1o : Nat) (a1n : Nat) : Option (pp_M) :=
  f_X5_weighGains_2 100000 σ a1t a1o a1n (0 : Int32)
/-! X6_isBetter -/
def f_X6_isBetter_32 (σ : pp_M)  : Option (Int32 × pp_M) :=
  some ((1 : Int32), σ)
def f_X6_isBetter (σ : pp_M) (a1 : Int32) (a2 : Int32) (a3 : Int64) : Option (Int32 × pp_M) :=
  if pp_ix a1 128 then
  if (σ.2 37 a1.toNatClampNeg) < a3 then
    f_X6_isBetter_32 σ
  else
    if a3 = (σ.2 37 a1.toNatClampNeg) then
      if a2 < (σ.1 38 a1.toNatClampNeg) then
        f_X6_isBetter_32 σ
      else
        some ((0 : Int32), σ)
    else
      some ((0 : Int32), σ)
  else none
/-! X6_bestSet -/
def f_X6_bestSet_46 (k4 : pp_M → Int32 → Int32 → Option (Int32 × pp_M)) (σ : pp_M) (a1 : Int32) (a2 : Int32) : Option (Int32 × pp_M) :=
  k4 σ a1 (a2 + (1 : Int32))
def f_X6_bestSet_4_B (k4 : pp_M → Int32 → Int32 → Option (Int32 × pp_M)) (σ : pp_M) (a1 : Int32) (a2 : Int32) : Option (Int32 × pp_M) :=
  if a2 < (128 : Int32) then
    if pp_ix a2 128 then
    if (σ.2 37 a2.toNatClampNeg) = (-9223372036854775808 : Int64) then
      f_X6_bestSet_46 k4 σ a1 a2
    else
      (f_X6_isBetter σ a1 (σ.1 38 a2.toNatClampNeg) (σ.2 37 a2.toNatClampNeg)).bind fun x38 =>
      if x38.1 = 0 then
        f_X6_bestSet_46 k4 x38.2 a1 a2
      else
        f_X6_bestSet_46 k4 x38.2 a2 a2
    else none
  else
    some (a1, σ)
def f_X6_bestSet_4 : Nat → pp_M → Int32 → Int32 → Option (Int32 × pp_M)
  | 0 => fun _ _ _ => none
  | n + 1 => fun σ a1 a2 => f_X6_bestSet_4_B (f_X6_bestSet_4 n) σ a1 a2
def f_X6_bestSet (σ : pp_M)  : Option (Int32 × pp_M) :=
  f_X6_bestSet_4 100000 σ (0 : Int32) (1 : Int32)
/-! X6_bitOf -/
def f_X6_bitOf (σ : pp_M) (a0 : Int32) : Option (Int32 × pp_M) :=
  some (((1 : Int32) <<< ((a0 - (1 : Int32)) &&& 31)), σ)
/-! X6_clear -/
def f_X6_clear_2_B (k2 : pp_M → Int32 → Option (pp_M)) (σ : pp_M) (a1 : Int32) : Option (pp_M) :=
  if a1 < (128 : Int32) then
    if pp_ix a1 128 then
    k2 (ppS (ppT σ 37 a1.toNatClampNeg (-9223372036854775808 : Int64)) 38 a1.toNatClampNeg (0 : Int32)) (a1 + (1 : Int32))
    else none
  else
    (f_X0_comeHome σ).bind fun x35 =>
    some x35
def f_X6_clear_2 : Nat → pp_M → Int32 → Option (pp_M)
  | 0 => fun _ _ => none
  | n + 1 => fun σ a1 => f_X6_clear_2_B (f_X6_clear_2 n) σ a1
def f_X6_clear (σ : pp_M)  : Option (pp_M) :=
  f_X6_clear_2 100000 σ (0 : Int32)
/-! X6_keep -/
def f_X6_keep (σ : pp_M) (a1 : Int32) (a2 : Int32) (a3 : Int64) : Option (pp_M) :=
  (f_X6_isBetter σ a1 a2 a3).bind fun x4 =>
  if x4.1 = 0 then
    some x4.2
  else
    if pp_ix a1 128 then
    some (ppS (ppT x4.2 37 a1.toNatClampNeg a3) 38 a1.toNatClampNeg a2)
    else none
/-! X6_valueOfPack -/
def f_X6_valueOfPack_5_B (k5 : pp_M → Nat → Nat → Nat → Int64 → Int32 → Option (Int64 × pp_M)) (σ : pp_M) (a1t : Nat) (a1o : Nat) (a1n : Nat) (a2 : Int64) (a4 : Int32) : Option (Int64 × pp_M) :=
  if a4 < (6 : Int32) then
    if pp_ix a4 6 then
    if pp_ix ((a4 * (5 : Int32)) + (σ.1 35 a4.toNatClampNeg)) a1n then
    k5 σ a1t a1o a1n (a2 + (σ.2 a1t (a1o + ((a4 * (5 : Int32)) + (σ.1 35 a4.toNatClampNeg)).toNatClampNeg))) (a4 + (1 : Int32))
    else none
    else none
  else
    some (a2, σ)
def f_X6_valueOfPack_5 : Nat → pp_M → Nat → Nat → Nat → Int64 → Int32 → Option (Int64 × pp_M)
  | 0 => fun _ _ _ _ _ _ => none
  | n + 1 => fun σ a1t a1o a1n a2 a4 => f_X6_valueOfPack_5_B (f_X6_valueOfPack_5 n) σ a1t a1o a1n a2 a4
def f_X6_valueOfPack (σ : pp_M) (a1t : Nat) (a1o : Nat) (a1n : Nat) : Option (Int64 × pp_M) :=
  f_X6_valueOfPack_5 100000 σ a1t a1o a1n (0 : Int64) (0 : Int32)
/-! X6_judge -/
def f_X6_judge_94 (σ : pp_M) (b1 : Int32) (b2 : Int32) (b3 : Int64) : Option (pp_M) :=
  (f_X6_keep σ b1 b2 b3).bind fun x94 =>
  some x94
def f_X6_judge (σ : pp_M) (a1 : Int32) (a2 : Int32) (a3 : Int32) : Option (pp_M) :=
  if pp_ix a1 8 then
  if (σ.1 36 7) = 0 then
    (f_X5_weighGains σ 23 (a1.toNatClampNeg * 30) 30).bind fun x37 =>
    (f_X5_peakGain x37).bind fun x44 =>
    (f_X6_isBetter x44.2 a2 a3 x44.1).bind fun x54 =>
    if x54.1 = 0 then
      some x54.2
    else
      (f_X5_peaksFit x54.2 (x54.2.1 36 11)).bind fun x71 =>
      if x71.1 = 0 then
        (f_X5_mostGain x71.2 (x71.2.1 36 11) (-1 : Int32)).bind fun x91 =>
        f_X6_judge_94 x91.2 a2 a3 x91.1
      else
        f_X6_judge_94 x71.2 a2 a3 x44.1
  else
    (f_X6_valueOfPack σ 23 (a1.toNatClampNeg * 30) 30).bind fun x24 =>
    (f_X6_keep x24.2 a2 a3 x24.1).bind fun x27 =>
    some x27
  else none
/-! X6_lengthen -/
def f_X6_lengthen_125 (rc : pp_M → Int32 → Int32 → Int32 → Int32 → Int32 → Option (pp_M)) (k36 : pp_M → Int32 → Int32 → Int32 → Int32 → Int32 → Int32 → Option (pp_M)) (σ : pp_M) (a1 : Int32) (a2 : Int32) (a3 : Int32) (a4 : Int32) (a5 : Int32) (a6 : Int32) : Option (pp_M) :=
  k36 σ a1 a2 a3 a4 a5 (a6 + (1 : Int32))
def f_X6_lengthen_36_B (rc : pp_M → Int32 → Int32 → Int32 → Int32 → Int32 → Option (pp_M)) (k36 : pp_M → Int32 → Int32 → Int32 → Int32 → Int32 → Int32 → Option (pp_M)) (σ : pp_M) (a1 : Int32) (a2 : Int32) (a3 : Int32) (a4 : Int32) (a5 : Int32) (a6 : Int32) : Option (pp_M) :=
  if (7 : Int32) < a6 then
    some σ
  else
    if a1 < (5 : Int32) then
      (f_X6_bitOf σ a6).bind fun x50 =>
      if ((x50.2.1 36 8) &&& x50.1) = 0 then
        f_X6_lengthen_125 rc k36 x50.2 a1 a2 a3 a4 a5 a6
      else
        if (a2 &&& x50.1) = 0 then
          (f_X0_callAt x50.2 (a1 + (1 : Int32)) a6).bind fun x81 =>
          if pp_ix a6 8 then
          if pp_ix a3 8 then
          (rc x81 (a1 + (1 : Int32)) (a2 ||| x50.1) a6 (a4 + (x81.1 8 ((a6.toNatClampNeg * 8) + a3.toNatClampNeg))) (a5 + (a6 <<< (((3 : Int32) * a1) &&& 31)))).bind fun x122 =>
          f_X6_lengthen_125 rc k36 x122 a1 a2 a3 a4 a5 a6
          else none
          else none
        else
          f_X6_lengthen_125 rc k36 x50.2 a1 a2 a3 a4 a5 a6
    else
      some σ
def f_X6_lengthen_36 (rc : pp_M → Int32 → Int32 → Int32 → Int32 → Int32 → Option (pp_M)) : Nat → pp_M → Int32 → Int32 → Int32 → Int32 → Int32 → Int32 → Option (pp_M)
  | 0 => fun _ _ _ _ _ _ _ => none
  | n + 1 => fun σ a1 a2 a3 a4 a5 a6 => f_X6_lengthen_36_B rc (f_X6_lengthen_36 rc n) σ a1 a2 a3 a4 a5 a6
def f_X6_lengthen_0 (rc : pp_M → Int32 → Int32 → Int32 → Int32 → Int32 → Option (pp_M)) (σ : pp_M) (a1 : Int32) (a2 : Int32) (a3 : Int32) (a4 : Int32) (a5 : Int32) : Option (pp_M) :=
  if pp_ix (σ.1 36 9) 8 then
  if pp_ix a3 8 then
  if (σ.1 36 10) < ((σ.1 8 (((σ.1 36 9).toNatClampNeg * 8) + a3.toNatClampNeg)) + a4) then
    some σ
  else
    (f_X6_judge σ a1 a2 a5).bind fun x30 =>
    f_X6_lengthen_36 rc 100000 x30 a1 a2 a3 a4 a5 (1 : Int32)
  else none
  else none
def f_X6_lengthen : Nat → pp_M → Int32 → Int32 → Int32 → Int32 → Int32 → Option (pp_M)
  | 0 => fun _ _ _ _ _ _ => none
  | d + 1 => fun σ a1 a2 a3 a4 a5 => f_X6_lengthen_0 (f_X6_lengthen d) σ a1 a2 a3 a4 a5
/-! X6_findOnward -/
def f_X6_findOnward_27 (σ : pp_M) (a2 : Int32) (a3 : Int32) (a4 : Int32) (b1 : Int32) : Option (pp_M) :=
  (f_X6_clear (ppS (ppS (ppS σ 36 8 b1) 36 9 a3) 36 10 (a2 - a4))).bind fun x44 =>
  (f_X6_lengthen 8 x44 (0 : Int32) (0 : Int32) (0 : Int32) (0 : Int32) (0 : Int32)).bind fun x53 =>
  some x53
def f_X6_findOnward (σ : pp_M) (a1 : Int32) (a2 : Int32) (a3 : Int32) (a4 : Int32) : Option (pp_M) :=
  if a3 = 0 then
    f_X6_findOnward_27 (ppS (ppS σ 36 6 (0 : Int32)) 36 7 (1 : Int32)) a2 a3 a4 a1
  else
    (f_X6_bitOf (ppS (ppS σ 36 6 (0 : Int32)) 36 7 (1 : Int32)) a3).bind fun x21 =>
    f_X6_findOnward_27 x21.2 a2 a3 a4 (a1 &&& (x21.1 ^^^ (-1 : Int32)))
/-! X6_findRounds -/
def f_X6_findRounds (σ : pp_M) (a1 : Int32) (a2 : Int32) (a3 : Int32) : Option (pp_M) :=
  if (σ.1 36 6) = 0 then
    (f_X6_clear (ppS (ppS (ppS (ppS (ppS σ 36 7 (0 : Int32)) 36 8 a1) 36 9 (0 : Int32)) 36 10 a2) 36 11 a3)).bind fun x34 =>
    (f_X6_lengthen 8 x34 (0 : Int32) (0 : Int32) (0 : Int32) (0 : Int32) (0 : Int32)).bind fun x43 =>
    some (ppS x43 36 6 (1 : Int32))
  else
    some σ
/-! X6_forget -/
def f_X6_forget (σ : pp_M)  : Option (pp_M) :=
  some (ppS σ 36 6 (0 : Int32))
/-! X6_partWith -/
def f_X6_partWith_78 (k2 : pp_M → Int32 → Int32 → Int32 → Option (pp_M)) (σ : pp_M) (a1 : Int32) (a2 : Int32) (a3 : Int32) : Option (pp_M) :=
  k2 σ a1 a2 (a3 + (1 : Int32))
def f_X6_partWith_2_B (k2 : pp_M → Int32 → Int32 → Int32 → Option (pp_M)) (σ : pp_M) (a1 : Int32) (a2 : Int32) (a3 : Int32) : Option (pp_M) :=
  if a3 < (128 : Int32) then
    if (a3 &&& (a2 ^^^ (-1 : Int32))) = 0 then
      if pp_ix a3 128 then
      if (σ.2 37 a3.toNatClampNeg) = (-9223372036854775808 : Int64) then
        f_X6_partWith_78 k2 σ a1 a2 a3
      else
        if pp_ix a1 128 then
        if (σ.2 36 14) < ((σ.2 37 a1.toNatClampNeg) + (σ.2 37 a3.toNatClampNeg)) then
          f_X6_partWith_78 k2 (ppT (ppS (ppS σ 36 12 a1) 36 13 a3) 36 14 (((ppS (ppS σ 36 12 a1) 36 13 a3).2 37 a1.toNatClampNeg) + ((ppS (ppS σ 36 12 a1) 36 13 a3).2 37 a3.toNatClampNeg))) a1 a2 a3
        else
          f_X6_partWith_78 k2 σ a1 a2 a3
        else none
      else none
    else
      f_X6_partWith_78 k2 σ a1 a2 a3
  else
    some σ
def f_X6_partWith_2 : Nat → pp_M → Int32 → Int32 → Int32 → Option (pp_M)
  | 0 => fun _ _ _ _ => none
  | n + 1 => fun σ a1 a2 a3 => f_X6_partWith_2_B (f_X6_partWith_2 n) σ a1 a2 a3
def f_X6_partWith (σ : pp_M) (a1 : Int32) (a2 : Int32) : Option (pp_M) :=
  f_X6_partWith_2 100000 σ a1 a2 (0 : Int32)
/-! X6_part -/
def f_X6_part_55 (k17 : pp_M → Int32 → Int32 → Option (pp_M)) (σ : pp_M) (a1 : Int32) (a2 : Int32) : Option (pp_M) :=
  k17 σ a1 (a2 + (1 : Int32))
def f_X6_part_17_B (k17 : pp_M → Int32 → Int32 → Option (pp_M)) (σ : pp_M) (a1 : Int32) (a2 : Int32) : Option (pp_M) :=
  if a2 < (128 : Int32) then
    if (a2 &&& (a1 ^^^ (-1 : Int32))) = 0 then
      if pp_ix a2 128 then
      if (σ.2 37 a2.toNatClampNeg) = (-9223372036854775808 : Int64) then
        f_X6_part_55 k17 σ a1 a2
      else
        (f_X6_partWith σ a2 (a1 &&& (a2 ^^^ (-1 : Int32)))).bind fun x52 =>
        f_X6_part_55 k17 x52 a1 a2
      else none
    else
      f_X6_part_55 k17 σ a1 a2
  else
    some σ
def f_X6_part_17 : Nat → pp_M → Int32 → Int32 → Option (pp_M)
  | 0 => fun _ _ _ => none
  | n + 1 => fun σ a1 a2 => f_X6_part_17_B (f_X6_part_17 n) σ a1 a2
def f_X6_part (σ : pp_M) (a1 : Int32) : Option (pp_M) :=
  f_X6_part_17 100000 (ppT (ppS (ppS σ 36 12 (0 : Int32)) 36 13 (0 : Int32)) 36 14 (0 : Int64)) a1 (0 : Int32)
/-! X7_isLost -/
def f_X7_isLost (σ : pp_M) (a1 : Int32) : Option (Int32 × pp_M) :=
  if pp_ix a1 4 then
  if (σ.1 20 a1.toNatClampNeg) = (-1 : Int32) then
    some ((1 : Int32), σ)
  else
    some ((0 : Int32), σ)
  else none
/-! X7_findingAt -/
def f_X7_findingAt (σ : pp_M) (a1 : Int32) (a2 : Int32) (a3 : Int32) : Option (Int32 × pp_M) :=
  (f_X7_isLost σ a1).bind fun x2 =>
  if x2.1 = 0 then
    if pp_ix a1 4 then
    if (x2.2.1 19 a1.toNatClampNeg) = a2 then
      (f_X8_within x2.2 a3 (0 : Int32) ((x2.2.1 20 a1.toNatClampNeg) - (1 : Int32))).bind fun x32 =>
      if x32.1 = 0 then
        some ((2 : Int32), x32.2)
      else
        some ((0 : Int32), x32.2)
    else
      some ((3 : Int32), x2.2)
    else none
  else
    some ((1 : Int32), x2.2)
/-! X7_found -/
def f_X7_found (σ : pp_M) (a1 : Int32) : Option (Int32 × pp_M) :=
  some (((-10 : Int32) - a1), ppS σ 16 3 a1)
/-! X7_hasItems -/
def f_X7_hasItems (σ : pp_M) (a1 : Int32) (a2 : Int32) (a3 : Int32) : Option (Int32 × pp_M) :=
  if a2 < 0 then
    some ((0 : Int32), σ)
  else
    if a3 < 0 then
      some ((0 : Int32), σ)
    else
      if pp_ix a1 4 then
      if (σ.1 20 a1.toNatClampNeg) < a2 then
        some ((0 : Int32), σ)
      else
        if ((σ.1 20 a1.toNatClampNeg) - a2) < a3 then
          some ((0 : Int32), σ)
        else
          some ((1 : Int32), σ)
      else none
/-! X7_lay -/
def f_X7_lay (σ : pp_M) (a1 : Int32) (a2 : Int32) (a3 : Int32) : Option (pp_M) :=
  if pp_ix a1 4 then
  if (σ.1 19 a1.toNatClampNeg) = 0 then
    if pp_ix a2 40 then
    some (ppS σ 18 ((a1.toNatClampNeg * 40) + a2.toNatClampNeg) ((a3).toInt8.toInt32))
    else none
  else
    if (σ.1 19 a1.toNatClampNeg) = (1 : Int32) then
      if pp_ix a2 40 then
      some (ppS σ 18 ((a1.toNatClampNeg * 40) + a2.toNatClampNeg) ((a3).toInt16.toInt32))
      else none
    else
      if pp_ix a2 40 then
      some (ppS σ 18 ((a1.toNatClampNeg * 40) + a2.toNatClampNeg) a3)
      else none
  else none
/-! X7_renew -/
def f_X7_renew_17_B (k17 : pp_M → Int32 → Int32 → Option (pp_M)) (σ : pp_M) (a1 : Int32) (a4 : Int32) : Option (pp_M) :=
  if a4 < (40 : Int32) then
    if pp_ix a1 4 then
    if pp_ix a4 40 then
    k17 (ppS σ 18 ((a1.toNatClampNeg * 40) + a4.toNatClampNeg) (0 : Int32)) a1 (a4 + (1 : Int32))
    else none
    else none
  else
    some σ
def f_X7_renew_17 : Nat → pp_M → Int32 → Int32 → Option (pp_M)
  | 0 => fun _ _ _ => none
  | n + 1 => fun σ a1 a4 => f_X7_renew_17_B (f_X7_renew_17 n) σ a1 a4
def f_X7_renew (σ : pp_M) (a1 : Int32) (a2 : Int32) (a3 : Int32) : Option (pp_M) :=
  if pp_ix a1 4 then
  f_X7_renew_17 100000 (ppS (ppS σ 19 a1.toNatClampNeg a2) 20 a1.toNatClampNeg a3) a1 (0 : Int32)
  else none
/-! X8_areFarms -/
def f_X8_areFarms_12_B (k12 : pp_M → Nat → Nat → Nat → Int32 → Int32 → Int32 → Option (Int32 × pp_M)) (σ : pp_M) (a0t : Nat) (a0o : Nat) (a0n : Nat) (a1 : Int32) (a2 : Int32) (a3 : Int32) : Option (Int32 × pp_M) :=
  if a3 < a1 then
    if pp_ix a3 a0n then
    (f_X8_isFarm σ (σ.1 a0t (a0o + a3.toNatClampNeg))).bind fun x20 =>
    if x20.1 = 0 then
      some ((0 : Int32), x20.2)
    else
      if ((a2 >>> ((x20.2.1 a0t (a0o + a3.toNatClampNeg)) &&& 31)) &&& (1 : Int32)) = (1 : Int32) then
        some ((0 : Int32), x20.2)
      else
        k12 x20.2 a0t a0o a0n a1 (a2 ||| ((1 : Int32) <<< ((x20.2.1 a0t (a0o + a3.toNatClampNeg)) &&& 31))) (a3 + (1 : Int32))
    else none
  else
    some ((1 : Int32), σ)
def f_X8_areFarms_12 : Nat → pp_M → Nat → Nat → Nat → Int32 → Int32 → Int32 → Option (Int32 × pp_M)
  | 0 => fun _ _ _ _ _ _ _ => none
  | n + 1 => fun σ a0t a0o a0n a1 a2 a3 => f_X8_areFarms_12_B (f_X8_areFarms_12 n) σ a0t a0o a0n a1 a2 a3
def f_X8_areFarms (σ : pp_M) (a0t : Nat) (a0o : Nat) (a0n : Nat) (a1 : Int32) : Option (Int32 × pp_M) :=
  if (7 : Int32) < a1 then
    some ((0 : Int32), σ)
  else
    f_X8_areFarms_12 100000 σ a0t a0o a0n a1 (0 : Int32) (0 : Int32)
/-! X8_ask -/
def f_X8_ask (σ : pp_M) (a1 : Int32) (a2 : Int32) (a3 : Int32) : Option (Int32 × pp_M) :=
  (f_X8_isThing σ a1).bind fun x1 =>
  if x1.1 = 0 then
    some ((-2 : Int32), x1.2)
  else
    (f_X8_within x1.2 a2 (0 : Int32) ((x1.2.1 0 10) - (1 : Int32))).bind fun x15 =>
    if x15.1 = 0 then
      some ((-2 : Int32), x15.2)
    else
      (f_X8_within x15.2 a3 (1 : Int32) (4 : Int32)).bind fun x24 =>
      if x24.1 = 0 then
        some ((-2 : Int32), x24.2)
      else
        (f_X0_goAlong x24.2 34 0 7 (x24.2.1 0 10)).bind fun x45 =>
        if pp_ix a2 7 then
        (f_X0_bestLevel x45 ((x45.1 0 10) - a2) (x45.1 34 a2.toNatClampNeg) a1 a3).bind fun x66 =>
        some (x66.1, x66.2)
        else none
/-! X8_numberOrWeight -/
def f_X8_numberOrWeight (σ : pp_M) (a1t : Nat) (a1o : Nat) (a1n : Nat) (a2 : Int32) : Option (Int32 × pp_M) :=
  if a2 = (-1 : Int32) then
    (f_X1_weightOf σ a1t a1o a1n).bind fun x10 =>
    some (x10.1, x10.2)
  else
    if pp_ix a2 a1n then
    some ((σ.1 a1t (a1o + a2.toNatClampNeg)), σ)
    else none
/-! X8_weighUp -/
def f_X8_weighUp (σ : pp_M)  : Option (pp_M) :=
  (f_X0_goAlong σ 34 0 7 (σ.1 0 10)).bind fun x12 =>
  if pp_ix (x12.1 0 10) 8 then
  (f_X5_weighGains x12 23 ((x12.1 0 10).toNatClampNeg * 30) 30).bind fun x31 =>
  some x31
  else none
/-! X8_best -/
def f_X8_best (σ : pp_M) (a1 : Int32) : Option (Int32 × pp_M) :=
  (f_X8_within σ a1 (-1 : Int32) (5 : Int32)).bind fun x3 =>
  if x3.1 = 0 then
    some ((-2 : Int32), x3.2)
  else
    (f_X8_weighUp x3.2).bind fun x13 =>
    (f_X5_chooseBest x13 (x13.1 0 12)).bind fun x24 =>
    (f_X8_numberOrWeight x24 32 0 6 a1).bind fun x36 =>
    some (x36.1, x36.2)
/-! X8_isTerm -/
def f_X8_isTerm (σ : pp_M) (a0 : Int32) : Option (Int32 × pp_M) :=
  (f_X8_within σ a0 (0 : Int32) (1 : Int32)).bind fun x3 =>
  if pp_b x3.1 then
  some (x3.1, x3.2)
  else none
/-! X8_refusal -/
def f_X8_refusal (σ : pp_M) (a0 : Int32) : Option (Int64 × pp_M) :=
  some (((-9223372036854775808 : Int64) - (a0.toInt64)), σ)
/-! X8_sharedDivisor -/
def f_X8_sharedDivisor_3_B (k3 : pp_M → Int64 → Int64 → Int32 → Option (Int64 × pp_M)) (σ : pp_M) (a0 : Int64) (a2 : Int64) (a4 : Int32) : Option (Int64 × pp_M) :=
  if a4 < (200 : Int32) then
    if a2 = (0 : Int64) then
      some (a0, σ)
    else
      if ¬ a2 = 0 then
      k3 σ a2 (a0 - a0 / a2 * a2) (a4 + (1 : Int32))
      else none
  else
    some (a0, σ)
def f_X8_sharedDivisor_3 : Nat → pp_M → Int64 → Int64 → Int32 → Option (Int64 × pp_M)
  | 0 => fun _ _ _ _ => none
  | n + 1 => fun σ a0 a2 a4 => f_X8_sharedDivisor_3_B (f_X8_sharedDivisor_3 n) σ a0 a2 a4
def f_X8_sharedDivisor (σ : pp_M) (a0 : Int64) (a2 : Int64) : Option (Int64 × pp_M) :=
  f_X8_sharedDivisor_3 100000 σ a0 a2 (0 : Int32)
/-! X8_term -/
def f_X8_term (σ : pp_M) (a0 : Int64) (a2 : Int64) (a4 : Int32) : Option (Int64 × pp_M) :=
  (f_X8_sharedDivisor σ (if 0 < a0 then a0 else -a0) a2).bind fun x5 =>
  if x5.1 = (0 : Int64) then
    some ((0 : Int64), x5.2)
  else
    if a4 = 0 then
      if ¬ x5.1 = 0 then
      some ((a0 / x5.1), x5.2)
      else none
    else
      if ¬ x5.1 = 0 then
      some ((a2 / x5.1), x5.2)
      else none
/-! J6_bitCount_0f7a4 -/
def f_J6_bitCount_0f7a4 (σ : pp_M) (a0 : Int32) : Option (Int32 × pp_M) :=
  some (((((((((a0 - ((((a0).toUInt32 >>> (((1 : Int32)).toUInt32 &&& Int32.toUInt32 31)).toInt32) &&& (1431655765 : Int32))) &&& (858993459 : Int32)) + (((((a0 - ((((a0).toUInt32 >>> (((1 : Int32)).toUInt32 &&& Int32.toUInt32 31)).toInt32) &&& (1431655765 : Int32)))).toUInt32 >>> (((2 : Int32)).toUInt32 &&& Int32.toUInt32 31)).toInt32) &&& (858993459 : Int32))) + ((((((a0 - ((((a0).toUInt32 >>> (((1 : Int32)).toUInt32 &&& Int32.toUInt32 31)).toInt32) &&& (1431655765 : Int32))) &&& (858993459 : Int32)) + (((((a0 - ((((a0).toUInt32 >>> (((1 : Int32)).toUInt32 &&& Int32.toUInt32 31)).toInt32) &&& (1431655765 : Int32)))).toUInt32 >>> (((2 : Int32)).toUInt32 &&& Int32.toUInt32 31)).toInt32) &&& (858993459 : Int32)))).toUInt32 >>> (((4 : Int32)).toUInt32 &&& Int32.toUInt32 31)).toInt32)) &&& (252645135 : Int32)) + ((((((((a0 - ((((a0).toUInt32 >>> (((1 : Int32)).toUInt32 &&& Int32.toUInt32 31)).toInt32) &&& (1431655765 : Int32))) &&& (858993459 : Int32)) + (((((a0 - ((((a0).toUInt32 >>> (((1 : Int32)).toUInt32 &&& Int32.toUInt32 31)).toInt32) &&& (1431655765 : Int32)))).toUInt32 >>> (((2 : Int32)).toUInt32 &&& Int32.toUInt32 31)).toInt32) &&& (858993459 : Int32))) + ((((((a0 - ((((a0).toUInt32 >>> (((1 : Int32)).toUInt32 &&& Int32.toUInt32 31)).toInt32) &&& (1431655765 : Int32))) &&& (858993459 : Int32)) + (((((a0 - ((((a0).toUInt32 >>> (((1 : Int32)).toUInt32 &&& Int32.toUInt32 31)).toInt32) &&& (1431655765 : Int32)))).toUInt32 >>> (((2 : Int32)).toUInt32 &&& Int32.toUInt32 31)).toInt32) &&& (858993459 : Int32)))).toUInt32 >>> (((4 : Int32)).toUInt32 &&& Int32.toUInt32 31)).toInt32)) &&& (252645135 : Int32))).toUInt32 >>> (((8 : Int32)).toUInt32 &&& Int32.toUInt32 31)).toInt32)) + (((((((((a0 - ((((a0).toUInt32 >>> (((1 : Int32)).toUInt32 &&& Int32.toUInt32 31)).toInt32) &&& (1431655765 : Int32))) &&& (858993459 : Int32)) + (((((a0 - ((((a0).toUInt32 >>> (((1 : Int32)).toUInt32 &&& Int32.toUInt32 31)).toInt32) &&& (1431655765 : Int32)))).toUInt32 >>> (((2 : Int32)).toUInt32 &&& Int32.toUInt32 31)).toInt32) &&& (858993459 : Int32))) + ((((((a0 - ((((a0).toUInt32 >>> (((1 : Int32)).toUInt32 &&& Int32.toUInt32 31)).toInt32) &&& (1431655765 : Int32))) &&& (858993459 : Int32)) + (((((a0 - ((((a0).toUInt32 >>> (((1 : Int32)).toUInt32 &&& Int32.toUInt32 31)).toInt32) &&& (1431655765 : Int32)))).toUInt32 >>> (((2 : Int32)).toUInt32 &&& Int32.toUInt32 31)).toInt32) &&& (858993459 : Int32)))).toUInt32 >>> (((4 : Int32)).toUInt32 &&& Int32.toUInt32 31)).toInt32)) &&& (252645135 : Int32)) + ((((((((a0 - ((((a0).toUInt32 >>> (((1 : Int32)).toUInt32 &&& Int32.toUInt32 31)).toInt32) &&& (1431655765 : Int32))) &&& (858993459 : Int32)) + (((((a0 - ((((a0).toUInt32 >>> (((1 : Int32)).toUInt32 &&& Int32.toUInt32 31)).toInt32) &&& (1431655765 : Int32)))).toUInt32 >>> (((2 : Int32)).toUInt32 &&& Int32.toUInt32 31)).toInt32) &&& (858993459 : Int32))) + ((((((a0 - ((((a0).toUInt32 >>> (((1 : Int32)).toUInt32 &&& Int32.toUInt32 31)).toInt32) &&& (1431655765 : Int32))) &&& (858993459 : Int32)) + (((((a0 - ((((a0).toUInt32 >>> (((1 : Int32)).toUInt32 &&& Int32.toUInt32 31)).toInt32) &&& (1431655765 : Int32)))).toUInt32 >>> (((2 : Int32)).toUInt32 &&& Int32.toUInt32 31)).toInt32) &&& (858993459 : Int32)))).toUInt32 >>> (((4 : Int32)).toUInt32 &&& Int32.toUInt32 31)).toInt32)) &&& (252645135 : Int32))).toUInt32 >>> (((8 : Int32)).toUInt32 &&& Int32.toUInt32 31)).toInt32))).toUInt32 >>> (((16 : Int32)).toUInt32 &&& Int32.toUInt32 31)).toInt32)) &&& (63 : Int32)), σ)
/-! X8_tooManyOpen -/
def f_X8_tooManyOpen (σ : pp_M)  : Option (Int32 × pp_M) :=
  (f_J6_bitCount_0f7a4 σ (σ.1 0 13)).bind fun x4 =>
  if (5 : Int32) < x4.1 then
    some ((1 : Int32), x4.2)
  else
    some ((0 : Int32), x4.2)
/-! X8_both -/
def f_X8_both (σ : pp_M) (a1 : Int32) : Option (Int64 × pp_M) :=
  (f_X8_isTerm σ a1).bind fun x1 =>
  if x1.1 = 0 then
    (f_X8_refusal x1.2 (-2 : Int32)).bind fun x9 =>
    some (x9.1, x9.2)
  else
    (f_X8_tooManyOpen x1.2).bind fun x14 =>
    if x14.1 = 0 then
      (f_X6_findRounds x14.2 (x14.2.1 0 13) (x14.2.1 0 11) (x14.2.1 0 12)).bind fun x42 =>
      (f_X6_part x42 (x42.1 0 13)).bind fun x53 =>
      (f_X8_term x53 (x53.2 36 14) (268435456 : Int64) a1).bind fun x67 =>
      some (x67.1, x67.2)
    else
      (f_X8_refusal x14.2 (-4 : Int32)).bind fun x22 =>
      some (x22.1, x22.2)
/-! X8_brings -/
def f_X8_brings_14 (σ : pp_M)  : Option (Int64 × pp_M) :=
  (f_X8_refusal σ (-2 : Int32)).bind fun x16 =>
  some (x16.1, x16.2)
def f_X8_brings (σ : pp_M) (a1 : Int32) (a2 : Int32) : Option (Int64 × pp_M) :=
  (f_X8_isThing σ a1).bind fun x1 =>
  if x1.1 = 0 then
    f_X8_brings_14 x1.2
  else
    (f_X8_isTerm x1.2 a2).bind fun x8 =>
    if x8.1 = 0 then
      f_X8_brings_14 x8.2
    else
      (f_X8_weighUp x8.2).bind fun x21 =>
      (f_X5_mostGain x21 (x21.1 0 12) (-1 : Int32)).bind fun x33 =>
      (f_X5_mostGain x33.2 (x33.2.1 0 12) a1).bind fun x47 =>
      (f_X8_term x47.2 (x33.1 - x47.1) (268435456 : Int64) a2).bind fun x55 =>
      some (x55.1, x55.2)
/-! X8_isLevel -/
def f_X8_isLevel (σ : pp_M) (a0 : Int32) : Option (Int32 × pp_M) :=
  (f_X8_within σ a0 (0 : Int32) (2 : Int32)).bind fun x3 =>
  if pp_b x3.1 then
  some (x3.1, x3.2)
  else none
/-! X8_chance -/
def f_X8_chance (σ : pp_M) (a1 : Int32) (a2 : Int32) (a3 : Int32) : Option (Int32 × pp_M) :=
  (f_X8_isFarm σ a1).bind fun x1 =>
  if x1.1 = 0 then
    some ((-2 : Int32), x1.2)
  else
    (f_X8_isThing x1.2 a2).bind fun x8 =>
    if x8.1 = 0 then
      some ((-2 : Int32), x8.2)
    else
      (f_X8_isLevel x8.2 a3).bind fun x15 =>
      if x15.1 = 0 then
        some ((-2 : Int32), x15.2)
      else
        (f_X4_chanceOf x15.2 a1 a2 a3).bind fun x31 =>
        some (x31.1, x31.2)
/-! X8_isSheet -/
def f_X8_isSheet (σ : pp_M) (a0 : Int32) : Option (Int32 × pp_M) :=
  (f_X8_within σ a0 (0 : Int32) (3 : Int32)).bind fun x3 =>
  if pp_b x3.1 then
  some (x3.1, x3.2)
  else none
/-! X8_copy -/
def f_X8_copy_107 (σ : pp_M)  : Option (Int32 × pp_M) :=
  (f_X7_found σ (2 : Int32)).bind fun x112 =>
  some (x112.1, x112.2)
def f_X8_copy_39 (σ : pp_M)  : Option (Int32 × pp_M) :=
  (f_X7_found σ (1 : Int32)).bind fun x44 =>
  some (x44.1, x44.2)
def f_X8_copy (σ : pp_M) (a1 : Int32) (a2 : Int32) (a3 : Int32) (a4 : Int32) (a5 : Int32) : Option (Int32 × pp_M) :=
  (f_X8_isSheet σ a1).bind fun x1 =>
  if x1.1 = 0 then
    some ((-2 : Int32), x1.2)
  else
    (f_X8_isSheet x1.2 a3).bind fun x8 =>
    if x8.1 = 0 then
      some ((-2 : Int32), x8.2)
    else
      (f_X7_isLost x8.2 a1).bind fun x22 =>
      if x22.1 = 0 then
        (f_X7_isLost x22.2 a3).bind fun x33 =>
        if x33.1 = 0 then
          if pp_ix a1 4 then
          if pp_ix a3 4 then
          if (x33.2.1 19 a1.toNatClampNeg) = (x33.2.1 19 a3.toNatClampNeg) then
            (f_X7_hasItems x33.2 a1 a2 a5).bind fun x86 =>
            if x86.1 = 0 then
              f_X8_copy_107 x86.2
            else
              (f_X7_hasItems x86.2 a3 a4 a5).bind fun x101 =>
              if x101.1 = 0 then
                f_X8_copy_107 x101.2
              else
                if pp_cpOk a2 a4 a5 40 40 then
                some ((1 : Int32), ppC x101.2 18 (a1.toNatClampNeg * 40) 18 (a3.toNatClampNeg * 40) (a2).toNatClampNeg (a4).toNatClampNeg (a5).toNatClampNeg)
                else none
          else
            (f_X7_found x33.2 (4 : Int32)).bind fun x74 =>
            some (x74.1, x74.2)
          else none
          else none
        else
          f_X8_copy_39 x33.2
      else
        f_X8_copy_39 x22.2
/-! X8_count -/
def f_X8_count (σ : pp_M) (a1 : Int32) : Option (Int32 × pp_M) :=
  if a1 = 0 then
    some ((σ.1 0 10), σ)
  else
  if a1 = 1 then
    (f_X1_weightOf σ 35 0 6).bind fun x65 =>
    some (x65.1, x65.2)
  else
  if a1 = 2 then
    (f_X2_countRoads σ).bind fun x73 =>
    some (x73.1, x73.2)
  else
  if a1 = 3 then
    (f_X4_countChances σ).bind fun x81 =>
    some (x81.1, x81.2)
  else
  if a1 = 4 then
    some ((σ.1 13 5), σ)
  else
  if a1 = 5 then
    some ((σ.1 0 11), σ)
  else
  if a1 = 6 then
    some ((σ.1 0 12), σ)
  else
  if a1 = 7 then
    some ((σ.1 0 13), σ)
  else
  if a1 = 8 then
    some ((σ.1 16 3), σ)
  else
    some ((-2 : Int32), σ)
/-! X8_fault -/
def f_X8_fault (σ : pp_M)  : Option (Int32 × pp_M) :=
  (f_X3_findFault σ).bind fun x4 =>
  some (x4.1, x4.2)
/-! X8_hours -/
def f_X8_hours (σ : pp_M)  : Option (Int32 × pp_M) :=
  (f_X2_hoursOf σ 34 0 7 (σ.1 0 10)).bind fun x12 =>
  some (x12.1, x12.2)
/-! X8_judged -/
def f_X8_judged (σ : pp_M)  : Option (Int32 × pp_M) :=
  (f_X1_weightOf σ 35 0 6).bind fun x8 =>
  if (x8.2.1 0 12) < x8.1 then
    some ((1 : Int32), x8.2)
  else
    (f_X8_hours x8.2).bind fun x21 =>
    if (x21.2.1 0 11) < x21.1 then
      some ((2 : Int32), x21.2)
    else
      some ((0 : Int32), x21.2)
/-! X8_loadTerm -/
def f_X8_loadTerm (σ : pp_M) (a1 : Int32) (a2 : Int32) : Option (Int64 × pp_M) :=
  if a1 = 0 then
    (f_X5_mostGain σ (σ.1 0 12) (-1 : Int32)).bind fun x13 =>
    (f_X8_term x13.2 x13.1 (268435456 : Int64) a2).bind fun x20 =>
    some (x20.1, x20.2)
  else
    if a1 = (1 : Int32) then
      (f_X5_chooseLoaded σ (σ.1 0 12)).bind fun x37 =>
      (f_X5_gainOf x37 33 0 6).bind fun x51 =>
      (f_X8_term x51.2 x51.1 (268435456 : Int64) a2).bind fun x58 =>
      some (x58.1, x58.2)
    else
      (f_X5_findBound σ (σ.1 0 12)).bind fun x70 =>
      (f_X8_term x70 (x70.2 25 7) (x70.2 25 8) a2).bind fun x88 =>
      some (x88.1, x88.2)
/-! X8_digest -/
def f_X8_digest_229_B (k229 : pp_M → Int64 → Int32 → Option (Int64 × pp_M)) (σ : pp_M) (a1 : Int64) (a3 : Int32) : Option (Int64 × pp_M) :=
  if a3 < (3 : Int32) then
    (f_X8_loadTerm σ a3 (0 : Int32)).bind fun x242 =>
    (f_X8_loadTerm x242.2 a3 (1 : Int32)).bind fun x255 =>
    k229 x255.2 (((31 : Int64) * (((31 : Int64) * a1) + x242.1)) + x255.1) (a3 + (1 : Int32))
  else
    (f_X5_leastBringing σ (σ.1 0 12)).bind fun x279 =>
    some ((((31 : Int64) * a1) + (x279.1.toInt64)), x279.2)
def f_X8_digest_229 : Nat → pp_M → Int64 → Int32 → Option (Int64 × pp_M)
  | 0 => fun _ _ _ => none
  | n + 1 => fun σ a1 a3 => f_X8_digest_229_B (f_X8_digest_229 n) σ a1 a3
def f_X8_digest_80_B (k71 : pp_M → Int64 → Int32 → Option (Int64 × pp_M)) (k80 : pp_M → Int64 → Int32 → Int32 → Option (Int64 × pp_M)) (σ : pp_M) (a1 : Int64) (a3 : Int32) (a4 : Int32) : Option (Int64 × pp_M) :=
  if a4 < (6 : Int32) then
    if pp_ix a3 6 then
    if pp_ix a4 6 then
    k80 σ (((31 : Int64) * a1) + (((σ.1 3 ((a3.toNatClampNeg * 6) + a4.toNatClampNeg))).toInt64)) a3 (a4 + (1 : Int32))
    else none
    else none
  else
    if pp_ix a3 6 then
    k71 σ (((31 : Int64) * (((31 : Int64) * a1) + (((σ.1 32 a3.toNatClampNeg)).toInt64))) + (((σ.1 33 a3.toNatClampNeg)).toInt64)) (a3 + (1 : Int32))
    else none
def f_X8_digest_80 (k71 : pp_M → Int64 → Int32 → Option (Int64 × pp_M)) : Nat → pp_M → Int64 → Int32 → Int32 → Option (Int64 × pp_M)
  | 0 => fun _ _ _ _ => none
  | n + 1 => fun σ a1 a3 a4 => f_X8_digest_80_B k71 (f_X8_digest_80 k71 n) σ a1 a3 a4
def f_X8_digest_71_B (k71 : pp_M → Int64 → Int32 → Option (Int64 × pp_M)) (σ : pp_M) (a1 : Int64) (a3 : Int32) : Option (Int64 × pp_M) :=
  if a3 < (6 : Int32) then
    f_X8_digest_80 k71 100000 σ a1 a3 (0 : Int32)
  else
    (f_X8_hours σ).bind fun x159 =>
    (f_X8_judged x159.2).bind fun x171 =>
    (f_X5_gainOf x171.2 35 0 6).bind fun x190 =>
    (f_X8_term x190.2 x190.1 (268435456 : Int64) (0 : Int32)).bind fun x197 =>
    (f_X5_gainOf x197.2 35 0 6).bind fun x215 =>
    (f_X8_term x215.2 x215.1 (268435456 : Int64) (1 : Int32)).bind fun x222 =>
    f_X8_digest_229 100000 x222.2 (((31 : Int64) * (((31 : Int64) * (((31 : Int64) * (((31 : Int64) * a1) + (x159.1.toInt64))) + (x171.1.toInt64))) + x197.1)) + x222.1) (0 : Int32)
def f_X8_digest_71 : Nat → pp_M → Int64 → Int32 → Option (Int64 × pp_M)
  | 0 => fun _ _ _ => none
  | n + 1 => fun σ a1 a3 => f_X8_digest_71_B (f_X8_digest_71 n) σ a1 a3
def f_X8_digest_32_B (k32 : pp_M → Int64 → Int32 → Option (Int64 × pp_M)) (σ : pp_M) (a1 : Int64) (a3 : Int32) : Option (Int64 × pp_M) :=
  if a3 < (8 : Int32) then
    (f_X8_count σ a3).bind fun x45 =>
    k32 x45.2 (((31 : Int64) * a1) + (x45.1.toInt64)) (a3 + (1 : Int32))
  else
    (f_X8_fault σ).bind fun x63 =>
    f_X8_digest_71 100000 x63.2 (((31 : Int64) * a1) + (x63.1.toInt64)) (0 : Int32)
def f_X8_digest_32 : Nat → pp_M → Int64 → Int32 → Option (Int64 × pp_M)
  | 0 => fun _ _ _ => none
  | n + 1 => fun σ a1 a3 => f_X8_digest_32_B (f_X8_digest_32 n) σ a1 a3
def f_X8_digest (σ : pp_M)  : Option (Int64 × pp_M) :=
  (f_X8_weighUp σ).bind fun x1 =>
  (f_X5_chooseBest x1 (x1.1 0 12)).bind fun x12 =>
  (f_X5_chooseLoaded x12 (x12.1 0 12)).bind fun x23 =>
  f_X8_digest_32 100000 x23 (17 : Int64) (0 : Int32)
/-! X8_farmOf -/
def f_X8_farmOf (σ : pp_M) (a0 : Int32) (a1 : Int32) : Option (Int32 × pp_M) :=
  some (((a0 >>> (((3 : Int32) * a1) &&& 31)) &&& (7 : Int32)), σ)
/-! X8_farmsOf -/
def f_X8_farmsOf_2_B (k2 : pp_M → Int32 → Int32 → Option (Int32 × pp_M)) (σ : pp_M) (a0 : Int32) (a1 : Int32) : Option (Int32 × pp_M) :=
  if a1 < (5 : Int32) then
    if 0 < (a0 >>> (((3 : Int32) * a1) &&& 31)) then
      k2 σ a0 (a1 + (1 : Int32))
    else
      some (a1, σ)
  else
    some (a1, σ)
def f_X8_farmsOf_2 : Nat → pp_M → Int32 → Int32 → Option (Int32 × pp_M)
  | 0 => fun _ _ _ => none
  | n + 1 => fun σ a0 a1 => f_X8_farmsOf_2_B (f_X8_farmsOf_2 n) σ a0 a1
def f_X8_farmsOf (σ : pp_M) (a0 : Int32) : Option (Int32 × pp_M) :=
  f_X8_farmsOf_2 100000 σ a0 (0 : Int32)
/-! X8_gain -/
def f_X8_gain (σ : pp_M) (a1 : Int32) : Option (Int64 × pp_M) :=
  (f_X8_isTerm σ a1).bind fun x1 =>
  if x1.1 = 0 then
    (f_X8_refusal x1.2 (-2 : Int32)).bind fun x9 =>
    some (x9.1, x9.2)
  else
    (f_X8_weighUp x1.2).bind fun x14 =>
    (f_X5_gainOf x14 35 0 6).bind fun x25 =>
    (f_X8_term x25.2 x25.1 (268435456 : Int64) a1).bind fun x32 =>
    some (x32.1, x32.2)
/-! X8_isForm -/
def f_X8_isForm (σ : pp_M) (a0 : Int32) : Option (Int32 × pp_M) :=
  (f_X8_within σ a0 (0 : Int32) (2 : Int32)).bind fun x3 =>
  if pp_b x3.1 then
  some (x3.1, x3.2)
  else none
/-! X8_get -/
def f_X8_get (σ : pp_M) (a1 : Int32) (a2 : Int32) (a3 : Int32) : Option (Int32 × pp_M) :=
  (f_X8_isSheet σ a1).bind fun x1 =>
  if x1.1 = 0 then
    some ((-2147483648 : Int32), x1.2)
  else
    (f_X8_isForm x1.2 a2).bind fun x8 =>
    if x8.1 = 0 then
      some ((-2147483648 : Int32), x8.2)
    else
      (f_X7_findingAt x8.2 a1 a2 a3).bind fun x25 =>
      if x25.1 = 0 then
        if pp_ix a1 4 then
        if pp_ix a3 40 then
        some ((x25.2.1 18 ((a1.toNatClampNeg * 40) + a3.toNatClampNeg)), x25.2)
        else none
        else none
      else
        (f_X7_found x25.2 x25.1).bind fun x41 =>
        some ((-2147483648 : Int32), x41.2)
/-! X8_isNumber -/
def f_X8_isNumber (σ : pp_M) (a0 : Int32) : Option (Int32 × pp_M) :=
  (f_X8_within σ a0 (0 : Int32) (4 : Int32)).bind fun x3 =>
  if pp_b x3.1 then
  some (x3.1, x3.2)
  else none
/-! X8_isPlace -/
def f_X8_isPlace (σ : pp_M) (a0 : Int32) : Option (Int32 × pp_M) :=
  (f_X8_within σ a0 (0 : Int32) (7 : Int32)).bind fun x4 =>
  if pp_b x4.1 then
  some (x4.1, x4.2)
  else none
/-! X8_load -/
def f_X8_load_16 (σ : pp_M)  : Option (Int64 × pp_M) :=
  (f_X8_refusal σ (-2 : Int32)).bind fun x18 =>
  some (x18.1, x18.2)
def f_X8_load (σ : pp_M) (a1 : Int32) (a2 : Int32) : Option (Int64 × pp_M) :=
  (f_X8_within σ a1 (0 : Int32) (2 : Int32)).bind fun x3 =>
  if x3.1 = 0 then
    f_X8_load_16 x3.2
  else
    (f_X8_isTerm x3.2 a2).bind fun x10 =>
    if x10.1 = 0 then
      f_X8_load_16 x10.2
    else
      (f_X8_weighUp x10.2).bind fun x23 =>
      (f_X8_loadTerm x23 a1 a2).bind fun x29 =>
      some (x29.1, x29.2)
/-! X8_loaded -/
def f_X8_loaded (σ : pp_M) (a1 : Int32) : Option (Int32 × pp_M) :=
  (f_X8_within σ a1 (-1 : Int32) (5 : Int32)).bind fun x3 =>
  if x3.1 = 0 then
    some ((-2 : Int32), x3.2)
  else
    (f_X8_weighUp x3.2).bind fun x13 =>
    (f_X5_chooseLoaded x13 (x13.1 0 12)).bind fun x24 =>
    (f_X8_numberOrWeight x24 33 0 6 a1).bind fun x36 =>
    some (x36.1, x36.2)
/-! X8_lose -/
def f_X8_lose (σ : pp_M) (a1 : Int32) : Option (Int32 × pp_M) :=
  (f_X8_isSheet σ a1).bind fun x1 =>
  if x1.1 = 0 then
    some ((-2 : Int32), x1.2)
  else
    (f_X7_isLost x1.2 a1).bind fun x15 =>
    if x15.1 = 0 then
      if pp_ix a1 4 then
      some ((x15.2.1 20 a1.toNatClampNeg), ppS x15.2 20 a1.toNatClampNeg (-1 : Int32))
      else none
    else
      (f_X7_found x15.2 (1 : Int32)).bind fun x26 =>
      some (x26.1, x26.2)
/-! X8_onward -/
def f_X8_onward (σ : pp_M) (a1 : Int32) (a2 : Int32) : Option (Int32 × pp_M) :=
  (f_X8_isPlace σ a1).bind fun x1 =>
  if x1.1 = 0 then
    some ((-2 : Int32), x1.2)
  else
    (f_X8_within x1.2 a2 (0 : Int32) (200 : Int32)).bind fun x12 =>
    if x12.1 = 0 then
      some ((-2 : Int32), x12.2)
    else
      (f_X8_tooManyOpen x12.2).bind fun x22 =>
      if x22.1 = 0 then
        (f_X6_findOnward x22.2 (x22.2.1 0 13) (x22.2.1 0 11) a1 a2).bind fun x45 =>
        (f_X6_bestSet x45).bind fun x52 =>
        if pp_ix x52.1 128 then
        (f_X8_farmsOf x52.2 (x52.2.1 38 x52.1.toNatClampNeg)).bind fun x65 =>
        if 0 < x65.1 then
          (f_X8_farmOf x65.2 (x65.2.1 38 x52.1.toNatClampNeg) (x65.1 - (1 : Int32))).bind fun x88 =>
          some (x88.1, x88.2)
        else
          some ((-1 : Int32), x65.2)
        else none
      else
        some ((-4 : Int32), x22.2)
/-! X8_pack -/
def f_X8_pack_93_B (k93 : pp_M → Nat → Int32 → Option (Int32 × pp_M)) (σ : pp_M) (a2o : Nat) (a3 : Int32) : Option (Int32 × pp_M) :=
  if a3 < (6 : Int32) then
    if pp_ix a3 40 then
    if pp_ix a3 6 then
    k93 (ppS σ 35 a3.toNatClampNeg (σ.1 18 (a2o + a3.toNatClampNeg))) a2o (a3 + (1 : Int32))
    else none
    else none
  else
    (f_X1_weightOf σ 35 0 6).bind fun x122 =>
    some (x122.1, x122.2)
def f_X8_pack_93 : Nat → pp_M → Nat → Int32 → Option (Int32 × pp_M)
  | 0 => fun _ _ _ => none
  | n + 1 => fun σ a2o a3 => f_X8_pack_93_B (f_X8_pack_93 n) σ a2o a3
def f_X8_pack_65_B (k65 : pp_M → Nat → Int32 → Option (Int32 × pp_M)) (σ : pp_M) (a2o : Nat) (a3 : Int32) : Option (Int32 × pp_M) :=
  if a3 < (6 : Int32) then
    if pp_ix a3 40 then
    (f_X8_within σ (σ.1 18 (a2o + a3.toNatClampNeg)) (0 : Int32) (4 : Int32)).bind fun x76 =>
    if x76.1 = 0 then
      some ((-3 : Int32), x76.2)
    else
      k65 x76.2 a2o (a3 + (1 : Int32))
    else none
  else
    f_X8_pack_93 100000 σ a2o (0 : Int32)
def f_X8_pack_65 : Nat → pp_M → Nat → Int32 → Option (Int32 × pp_M)
  | 0 => fun _ _ _ => none
  | n + 1 => fun σ a2o a3 => f_X8_pack_65_B (f_X8_pack_65 n) σ a2o a3
def f_X8_pack (σ : pp_M) (a1 : Int32) : Option (Int32 × pp_M) :=
  (f_X8_isSheet σ a1).bind fun x1 =>
  if x1.1 = 0 then
    some ((-2 : Int32), x1.2)
  else
    (f_X7_isLost x1.2 a1).bind fun x15 =>
    if x15.1 = 0 then
      if pp_ix a1 4 then
      if (x15.2.1 20 a1.toNatClampNeg) < (6 : Int32) then
        (f_X7_found x15.2 (2 : Int32)).bind fun x49 =>
        some (x49.1, x49.2)
      else
        f_X8_pack_65 100000 x15.2 (a1.toNatClampNeg * 40) (0 : Int32)
      else none
    else
      (f_X7_found x15.2 (1 : Int32)).bind fun x26 =>
      some (x26.1, x26.2)
/-! X8_put -/
def f_X8_put (σ : pp_M) (a1 : Int32) (a2 : Int32) (a3 : Int32) (a4 : Int32) : Option (Int32 × pp_M) :=
  (f_X8_isSheet σ a1).bind fun x1 =>
  if x1.1 = 0 then
    some ((-2 : Int32), x1.2)
  else
    (f_X8_isForm x1.2 a2).bind fun x8 =>
    if x8.1 = 0 then
      some ((-2 : Int32), x8.2)
    else
      (f_X7_findingAt x8.2 a1 a2 a3).bind fun x24 =>
      if x24.1 = 0 then
        (f_X7_lay x24.2 a1 a3 a4).bind fun x52 =>
        some ((1 : Int32), x52)
      else
        (f_X7_found x24.2 x24.1).bind fun x40 =>
        some (x40.1, x40.2)
/-! X8_read -/
def f_X8_read_97 (σ : pp_M) (a3 : Int32) : Option (Int32 × pp_M) :=
  (f_X6_forget σ).bind fun x101 =>
  some (a3, x101)
def f_X8_read_68_B (k68 : pp_M → Int32 → Int32 → Int32 → Nat → Option (Int32 × pp_M)) (σ : pp_M) (a2 : Int32) (a3 : Int32) (a4 : Int32) (a5o : Nat) : Option (Int32 × pp_M) :=
  if a3 < a4 then
    (f_X4_take σ a2 a3 18 a5o 40 (a3 * (3 : Int32))).bind fun x85 =>
    if x85.1 = 0 then
      f_X8_read_97 x85.2 a3
    else
      k68 x85.2 a2 (a3 + (1 : Int32)) a4 a5o
  else
    f_X8_read_97 σ a3
def f_X8_read_68 : Nat → pp_M → Int32 → Int32 → Int32 → Nat → Option (Int32 × pp_M)
  | 0 => fun _ _ _ _ _ => none
  | n + 1 => fun σ a2 a3 a4 a5o => f_X8_read_68_B (f_X8_read_68 n) σ a2 a3 a4 a5o
def f_X8_read (σ : pp_M) (a1 : Int32) (a2 : Int32) : Option (Int32 × pp_M) :=
  (f_X8_isSheet σ a1).bind fun x1 =>
  if x1.1 = 0 then
    some ((-2 : Int32), x1.2)
  else
    (f_X8_isFarm x1.2 a2).bind fun x8 =>
    if x8.1 = 0 then
      some ((-2 : Int32), x8.2)
    else
      (f_X7_isLost x8.2 a1).bind fun x22 =>
      if x22.1 = 0 then
        if pp_ix a1 4 then
        f_X8_read_68 100000 x22.2 a2 (0 : Int32) (if (6 : Int32) < ((x22.2.1 20 a1.toNatClampNeg) / (3 : Int32)) then (6 : Int32) else ((x22.2.1 20 a1.toNatClampNeg) / (3 : Int32))) (a1.toNatClampNeg * 40)
        else none
      else
        (f_X7_found x22.2 (1 : Int32)).bind fun x33 =>
        some (x33.1, x33.2)
/-! X8_road -/
def f_X8_road (σ : pp_M) (a1 : Int32) (a2 : Int32) (a3 : Int32) : Option (Int32 × pp_M) :=
  (f_X8_isPlace σ a1).bind fun x1 =>
  if x1.1 = 0 then
    some ((-2 : Int32), x1.2)
  else
    (f_X8_isPlace x1.2 a2).bind fun x8 =>
    if x8.1 = 0 then
      some ((-2 : Int32), x8.2)
    else
      if a1 = a2 then
        some ((-2 : Int32), x8.2)
      else
        (f_X8_within x8.2 a3 (0 : Int32) (60 : Int32)).bind fun x23 =>
        if x23.1 = 0 then
          some ((-2 : Int32), x23.2)
        else
          if pp_ix a1 8 then
          if pp_ix a2 8 then
          (f_X2_build x23.2 a1 a2 a3).bind fun x52 =>
          (f_X6_forget x52).bind fun x59 =>
          some ((x23.2.1 6 ((a1.toNatClampNeg * 8) + a2.toNatClampNeg)), x59)
          else none
          else none
/-! X8_round -/
def f_X8_round (σ : pp_M) (a1 : Int32) : Option (Int32 × pp_M) :=
  if a1 < (-1 : Int32) then
    some ((-2 : Int32), σ)
  else
    (f_X8_tooManyOpen σ).bind fun x9 =>
    if x9.1 = 0 then
      (f_X6_findRounds x9.2 (x9.2.1 0 13) (x9.2.1 0 11) (x9.2.1 0 12)).bind fun x34 =>
      (f_X6_bestSet x34).bind fun x48 =>
      if pp_ix x48.1 128 then
      (f_X8_farmsOf x48.2 (x48.2.1 38 x48.1.toNatClampNeg)).bind fun x54 =>
      if a1 = (-1 : Int32) then
        some (x54.1, x54.2)
      else
        if a1 < x54.1 then
          (f_X8_farmOf x54.2 (x48.2.1 38 x48.1.toNatClampNeg) ((x54.1 - (1 : Int32)) - a1)).bind fun x76 =>
          some (x76.1, x76.2)
        else
          some ((-1 : Int32), x54.2)
      else none
    else
      some ((-4 : Int32), x9.2)
/-! X8_rounds -/
def f_X8_rounds (σ : pp_M) (a1 : Int32) : Option (Int64 × pp_M) :=
  (f_X8_isTerm σ a1).bind fun x1 =>
  if x1.1 = 0 then
    (f_X8_refusal x1.2 (-2 : Int32)).bind fun x9 =>
    some (x9.1, x9.2)
  else
    (f_X8_tooManyOpen x1.2).bind fun x14 =>
    if x14.1 = 0 then
      (f_X6_findRounds x14.2 (x14.2.1 0 13) (x14.2.1 0 11) (x14.2.1 0 12)).bind fun x42 =>
      (f_X6_bestSet x42).bind fun x56 =>
      if pp_ix x56.1 128 then
      (f_X8_term x56.2 (x56.2.2 37 x56.1.toNatClampNeg) (268435456 : Int64) a1).bind fun x64 =>
      some (x64.1, x64.2)
      else none
    else
      (f_X8_refusal x14.2 (-4 : Int32)).bind fun x22 =>
      some (x22.1, x22.2)
/-! X8_row -/
def f_X8_row_61_B (k61 : pp_M → Int32 → Int32 → Int32 → Option (Int32 × pp_M)) (σ : pp_M) (a1 : Int32) (a2 : Int32) (a3 : Int32) : Option (Int32 × pp_M) :=
  if a3 < a2 then
    if pp_ix a1 4 then
    if pp_ix a3 40 then
    if pp_ix a3 7 then
    k61 (ppS σ 34 a3.toNatClampNeg (σ.1 18 ((a1.toNatClampNeg * 40) + a3.toNatClampNeg))) a1 a2 (a3 + (1 : Int32))
    else none
    else none
    else none
  else
    some (a2, ppS σ 0 10 a2)
def f_X8_row_61 : Nat → pp_M → Int32 → Int32 → Int32 → Option (Int32 × pp_M)
  | 0 => fun _ _ _ _ => none
  | n + 1 => fun σ a1 a2 a3 => f_X8_row_61_B (f_X8_row_61 n) σ a1 a2 a3
def f_X8_row (σ : pp_M) (a1 : Int32) : Option (Int32 × pp_M) :=
  (f_X8_isSheet σ a1).bind fun x1 =>
  if x1.1 = 0 then
    some ((-2 : Int32), x1.2)
  else
    (f_X7_isLost x1.2 a1).bind fun x15 =>
    if x15.1 = 0 then
      if pp_ix a1 4 then
      (f_X8_areFarms x15.2 18 (a1.toNatClampNeg * 40) 40 (x15.2.1 20 a1.toNatClampNeg)).bind fun x50 =>
      if x50.1 = 0 then
        some ((-3 : Int32), x50.2)
      else
        f_X8_row_61 100000 x50.2 a1 (x15.2.1 20 a1.toNatClampNeg) (0 : Int32)
      else none
    else
      (f_X7_found x15.2 (1 : Int32)).bind fun x26 =>
      some (x26.1, x26.2)
/-! X8_set -/
def f_X8_set_84 (σ : pp_M) (a3 : Int32) : Option (Int32 × pp_M) :=
  (f_X6_forget σ).bind fun x88 =>
  some (a3, x88)
def f_X8_set_59 (σ : pp_M) (a1 : Int32) (a2 : Int32) (a3 : Int32) : Option (Int32 × pp_M) :=
  if a1 = (2 : Int32) then
    (f_X8_within σ a2 (0 : Int32) (127 : Int32)).bind fun x68 =>
    if x68.1 = 0 then
      f_X8_set_84 x68.2 a3
    else
      f_X8_set_84 (ppS x68.2 0 13 a2) (x68.2.1 0 13)
  else
    f_X8_set_84 σ a3
def f_X8_set_31 (σ : pp_M) (a1 : Int32) (a2 : Int32) (a3 : Int32) : Option (Int32 × pp_M) :=
  if a1 = (1 : Int32) then
    (f_X8_within σ a2 (1 : Int32) (100 : Int32)).bind fun x40 =>
    if x40.1 = 0 then
      f_X8_set_59 x40.2 a1 a2 a3
    else
      f_X8_set_84 (ppS x40.2 0 12 a2) (x40.2.1 0 12)
  else
    f_X8_set_59 σ a1 a2 a3
def f_X8_set (σ : pp_M) (a1 : Int32) (a2 : Int32) : Option (Int32 × pp_M) :=
  if a1 = 0 then
    (f_X8_within σ a2 (1 : Int32) (200 : Int32)).bind fun x12 =>
    if x12.1 = 0 then
      f_X8_set_31 x12.2 a1 a2 (-2 : Int32)
    else
      f_X8_set_84 (ppS x12.2 0 11 a2) (x12.2.1 0 11)
  else
    f_X8_set_31 σ a1 a2 (-2 : Int32)
/-! X8_sheet -/
def f_X8_sheet (σ : pp_M) (a1 : Int32) (a2 : Int32) (a3 : Int32) : Option (Int32 × pp_M) :=
  (f_X8_isSheet σ a1).bind fun x1 =>
  if x1.1 = 0 then
    some ((-2 : Int32), x1.2)
  else
    (f_X8_isForm x1.2 a2).bind fun x8 =>
    if x8.1 = 0 then
      some ((-2 : Int32), x8.2)
    else
      if (40 : Int32) < a3 then
        some ((-2 : Int32), x8.2)
      else
        if a3 < 0 then
          (f_X7_found x8.2 (5 : Int32)).bind fun x32 =>
          some (x32.1, x32.2)
        else
          (f_X7_renew x8.2 a1 a2 a3).bind fun x43 =>
          some (a3, x43)
/-! X8_shop -/
def f_X8_shop (σ : pp_M) (a1 : Int32) (a2 : Int32) : Option (Int32 × pp_M) :=
  (f_X8_isThing σ a1).bind fun x1 =>
  if x1.1 = 0 then
    some ((-2 : Int32), x1.2)
  else
    (f_X8_within x1.2 a2 (0 : Int32) (16 : Int32)).bind fun x11 =>
    if x11.1 = 0 then
      some ((-2 : Int32), x11.2)
    else
      if pp_ix a1 6 then
      (f_X6_forget (ppS x11.2 12 a1.toNatClampNeg a2)).bind fun x44 =>
      some ((x11.2.1 12 a1.toNatClampNeg), x44)
      else none
/-! X8_sold -/
def f_X8_sold_89 (σ : pp_M) (a5 : Int32) (b0 : Int64) : Option (Int64 × pp_M) :=
  (f_X8_term σ b0 (268435456 : Int64) a5).bind fun x94 =>
  some (x94.1, x94.2)
def f_X8_sold_39 (σ : pp_M)  : Option (Int64 × pp_M) :=
  (f_X8_refusal σ (-2 : Int32)).bind fun x41 =>
  some (x41.1, x41.2)
def f_X8_sold (σ : pp_M) (a1 : Int32) (a2 : Int32) (a3 : Int32) (a4 : Int32) (a5 : Int32) : Option (Int64 × pp_M) :=
  (f_X8_isThing σ a1).bind fun x1 =>
  if x1.1 = 0 then
    f_X8_sold_39 x1.2
  else
    (f_X8_isNumber x1.2 a2).bind fun x8 =>
    if x8.1 = 0 then
      f_X8_sold_39 x8.2
    else
      (f_X8_isLevel x8.2 a3).bind fun x15 =>
      if x15.1 = 0 then
        f_X8_sold_39 x15.2
      else
        (f_X8_within x15.2 a4 (-1 : Int32) (4 : Int32)).bind fun x25 =>
        if x25.1 = 0 then
          f_X8_sold_39 x25.2
        else
          (f_X8_isTerm x25.2 a5).bind fun x33 =>
          if x33.1 = 0 then
            f_X8_sold_39 x33.2
          else
            (f_X0_sell x33.2 a1 a2 a3 34 0 7 (x33.2.1 0 10)).bind fun x60 =>
            if a4 = (-1 : Int32) then
              (f_X0_meanSold x60).bind fun x73 =>
              f_X8_sold_89 x73.2 a5 x73.1
            else
              if pp_ix a4 5 then
              f_X8_sold_89 x60 a5 (x60.2 24 a4.toNatClampNeg)
              else none
/-! X8_straps -/
def f_X8_straps (σ : pp_M)  : Option (Int32 × pp_M) :=
  (f_X8_weighUp σ).bind fun x1 =>
  (f_X5_chooseBest x1 (x1.1 0 12)).bind fun x12 =>
  (f_X5_leastBringing x12 (x12.1 0 12)).bind fun x23 =>
  some (x23.1, x23.2)
/-! X8_thing -/
def f_X8_thing (σ : pp_M) (a1 : Int32) (a2 : Int32) (a3 : Int32) : Option (Int32 × pp_M) :=
  (f_X8_isThing σ a1).bind fun x1 =>
  if x1.1 = 0 then
    some ((-2 : Int32), x1.2)
  else
    (f_X8_within x1.2 a2 (0 : Int32) (5 : Int32)).bind fun x10 =>
    if x10.1 = 0 then
      some ((-2 : Int32), x10.2)
    else
      (f_X1_mayBe x10.2 a1 a2 a3).bind fun x23 =>
      if x23.1 = 0 then
        some ((-2 : Int32), x23.2)
      else
        if pp_ix a1 6 then
        if pp_ix a2 6 then
        (f_X6_forget (ppS x23.2 3 ((a1.toNatClampNeg * 6) + a2.toNatClampNeg) a3)).bind fun x61 =>
        some ((x23.2.1 3 ((a1.toNatClampNeg * 6) + a2.toNatClampNeg)), x61)
        else none
        else none
/-! X8_trust -/
def f_X8_trust (σ : pp_M) (a1 : Int32) (a2 : Int32) (a3 : Int32) (a4 : Int32) (a5 : Int32) : Option (Int32 × pp_M) :=
  (f_X8_isThing σ a1).bind fun x1 =>
  if x1.1 = 0 then
    some ((-2 : Int32), x1.2)
  else
    (f_X8_within x1.2 a2 (0 : Int32) ((x1.2.1 0 10) - (1 : Int32))).bind fun x15 =>
    if x15.1 = 0 then
      some ((-2 : Int32), x15.2)
    else
      (f_X8_within x15.2 a3 (1 : Int32) (4 : Int32)).bind fun x24 =>
      if x24.1 = 0 then
        some ((-2 : Int32), x24.2)
      else
        (f_X8_isLevel x24.2 a4).bind fun x32 =>
        if x32.1 = 0 then
          some ((-2 : Int32), x32.2)
        else
          (f_X8_within x32.2 a5 (0 : Int32) (16 : Int32)).bind fun x43 =>
          if x43.1 = 0 then
            some ((-2 : Int32), x43.2)
          else
            (f_X0_goAlong x43.2 34 0 7 (x43.2.1 0 10)).bind fun x64 =>
            if pp_ix a1 6 then
            if pp_ix ((3 : Int32) + a4) 6 then
            if pp_ix (((x64.1 0 10) - a2) - (1 : Int32)) 8 then
            if pp_ix (((a1 * (5 : Int32)) + a3) - (1 : Int32)) 30 then
            if pp_ix ((x64.1 0 10) - a2) 8 then
            if pp_ix ((a1 * (5 : Int32)) + a3) 30 then
            if (x64.2 23 ((((x64.1 0 10) - a2).toNatClampNeg * 30) + ((a1 * (5 : Int32)) + a3).toNatClampNeg)) < (((((a5 * (x64.1 3 ((a1.toNatClampNeg * 6) + ((3 : Int32) + a4).toNatClampNeg)))).toInt64) * (16777216 : Int64)) + (x64.2 23 (((((x64.1 0 10) - a2) - (1 : Int32)).toNatClampNeg * 30) + (((a1 * (5 : Int32)) + a3) - (1 : Int32)).toNatClampNeg))) then
              some ((1 : Int32), x64)
            else
              some ((0 : Int32), x64)
            else none
            else none
            else none
            else none
            else none
            else none
/-! X8_two -/
def f_X8_two (σ : pp_M) (a1 : Int32) : Option (Int32 × pp_M) :=
  (f_X8_within σ a1 (0 : Int32) (1 : Int32)).bind fun x3 =>
  if x3.1 = 0 then
    some ((-2 : Int32), x3.2)
  else
    (f_X8_tooManyOpen x3.2).bind fun x13 =>
    if x13.1 = 0 then
      (f_X6_findRounds x13.2 (x13.2.1 0 13) (x13.2.1 0 11) (x13.2.1 0 12)).bind fun x38 =>
      (f_X6_part x38 (x38.1 0 13)).bind fun x49 =>
      if a1 = 0 then
        some ((x49.1 36 12), x49)
      else
        some ((x49.1 36 13), x49)
    else
      some ((-4 : Int32), x13.2)
/-! X8_type -/
def f_X8_type (σ : pp_M) (a1 : Int32) : Option (Int32 × pp_M) :=
  (f_X8_within σ a1 (0 : Int32) (255 : Int32)).bind fun x5 =>
  if x5.1 = 0 then
    some ((-2 : Int32), x5.2)
  else
    (f_X3_append x5.2 a1).bind fun x19 =>
    if x19.1 = 0 then
      some ((-4 : Int32), x19.2)
    else
      some ((x19.2.1 13 5), x19.2)
/-! X8_value -/
def f_X8_value_34 (σ : pp_M)  : Option (Int64 × pp_M) :=
  (f_X8_refusal σ (-2 : Int32)).bind fun x36 =>
  some (x36.1, x36.2)
def f_X8_value (σ : pp_M) (a1 : Int32) (a2 : Int32) (a3 : Int32) (a4 : Int32) : Option (Int64 × pp_M) :=
  (f_X8_isThing σ a1).bind fun x1 =>
  if x1.1 = 0 then
    f_X8_value_34 x1.2
  else
    (f_X8_within x1.2 a2 (0 : Int32) (x1.2.1 0 10)).bind fun x13 =>
    if x13.1 = 0 then
      f_X8_value_34 x13.2
    else
      (f_X8_isNumber x13.2 a3).bind fun x20 =>
      if x20.1 = 0 then
        f_X8_value_34 x20.2
      else
        (f_X8_isTerm x20.2 a4).bind fun x28 =>
        if x28.1 = 0 then
          f_X8_value_34 x28.2
        else
          (f_X0_goAlong x28.2 34 0 7 (x28.2.1 0 10)).bind fun x52 =>
          if pp_ix ((x52.1 0 10) - a2) 8 then
          if pp_ix ((a1 * (5 : Int32)) + a3) 30 then
          (f_X8_term x52 (x52.2 23 ((((x52.1 0 10) - a2).toNatClampNeg * 30) + ((a1 * (5 : Int32)) + a3).toNatClampNeg)) (268435456 : Int64) a4).bind fun x80 =>
          some (x80.1, x80.2)
          else none
          else none
/-! X8_wants -/
def f_X8_wants (σ : pp_M)  : Option (Int32 × pp_M) :=
  (f_X3_findFault σ).bind fun x4 =>
  if x4.1 = (-1 : Int32) then
    (f_X3_tellTo x4.2).bind fun x22 =>
    (f_X6_forget (ppS x22.2 13 5 (0 : Int32))).bind fun x38 =>
    some (x22.1, x38)
  else
    some ((-3 : Int32), x4.2)
/-! X8_way -/
def f_X8_way (σ : pp_M) (a1 : Int32) (a2 : Int32) : Option (Int32 × pp_M) :=
  (f_X8_isPlace σ a1).bind fun x1 =>
  if x1.1 = 0 then
    some ((-2 : Int32), x1.2)
  else
    (f_X8_isPlace x1.2 a2).bind fun x8 =>
    if x8.1 = 0 then
      some ((-2 : Int32), x8.2)
    else
      if pp_ix a1 8 then
      if pp_ix a2 8 then
      some ((x8.2.1 8 ((a1.toNatClampNeg * 8) + a2.toNatClampNeg)), x8.2)
      else none
      else none
/-! X8_wipe -/
def f_X8_wipe (σ : pp_M)  : Option (Int32 × pp_M) :=
  some ((σ.1 13 5), ppS σ 13 5 (0 : Int32))
/-! X8_write -/
def f_X8_write_62_B (k62 : pp_M → Int32 → Int32 → Int32 → Option (Int32 × pp_M)) (σ : pp_M) (a1 : Int32) (a2 : Int32) (a3 : Int32) : Option (Int32 × pp_M) :=
  if a3 < a2 then
    if pp_ix a3 6 then
    (f_X7_lay σ a1 a3 (σ.1 32 a3.toNatClampNeg)).bind fun x82 =>
    k62 x82 a1 a2 (a3 + (1 : Int32))
    else none
  else
    some (a2, σ)
def f_X8_write_62 : Nat → pp_M → Int32 → Int32 → Int32 → Option (Int32 × pp_M)
  | 0 => fun _ _ _ _ => none
  | n + 1 => fun σ a1 a2 a3 => f_X8_write_62_B (f_X8_write_62 n) σ a1 a2 a3
def f_X8_write (σ : pp_M) (a1 : Int32) : Option (Int32 × pp_M) :=
  (f_X8_isSheet σ a1).bind fun x1 =>
  if x1.1 = 0 then
    some ((-2 : Int32), x1.2)
  else
    (f_X7_isLost x1.2 a1).bind fun x15 =>
    if x15.1 = 0 then
      (f_X8_weighUp x15.2).bind fun x31 =>
      (f_X5_chooseBest x31 (x31.1 0 12)).bind fun x42 =>
      if pp_ix a1 4 then
      f_X8_write_62 100000 x42 a1 (if (6 : Int32) < (x42.1 20 a1.toNatClampNeg) then (6 : Int32) else (x42.1 20 a1.toNatClampNeg)) (0 : Int32)
      else none
    else
      (f_X7_found x15.2 (1 : Int32)).bind fun x26 =>
      some (x26.1, x26.2)
/-! X9_in -/
def f_X9_in (σ : pp_M) (a0 : Int32) (a1 : Int32) (a2 : Int32) : Option (Int32 × pp_M) :=
  if a0 < a1 then
    some ((0 : Int32), σ)
  else
    if a2 < a0 then
      some ((0 : Int32), σ)
    else
      some ((1 : Int32), σ)
/-! X9_isThing -/
def f_X9_isThing (σ : pp_M) (a0 : Int32) : Option (Int32 × pp_M) :=
  (f_X9_in σ a0 (0 : Int32) (5 : Int32)).bind fun x3 =>
  if pp_b x3.1 then
  some (x3.1, x3.2)
  else none
/-! X9_place -/
def f_X9_place (σ : pp_M) (a0 : Int32) (a1 : Int32) : Option (Int32 × pp_M) :=
  some (((3 : Int32) * (((6 : Int32) * a0) + a1)), σ)
/-! X9_chanceNow -/
def f_X9_chanceNow (σ : pp_M) (a1 : Int32) (a2 : Int32) (a3 : Int32) : Option (Int32 × pp_M) :=
  (f_X9_place σ a1 a2).bind fun x6 =>
  if pp_ix (x6.1 + a3) 144 then
  if pp_ix a2 6 then
  if ((x6.2.1 47 (x6.1 + a3).toNatClampNeg) - (x6.2.1 48 a2.toNatClampNeg)) < 0 then
    some ((0 : Int32), x6.2)
  else
    some (((x6.2.1 47 (x6.1 + a3).toNatClampNeg) - (x6.2.1 48 a2.toNatClampNeg)), x6.2)
  else none
  else none
/-! X9_sixteen -/
def f_X9_sixteen (σ : pp_M) (a0 : Int32) : Option (Int64 × pp_M) :=
  some (((1 : Int64) <<< ((((4 : Int32) * a0)).toInt64 &&& 63)), σ)
/-! X9_spot -/
def f_X9_spot (σ : pp_M) (a0 : Int32) (a1 : Int32) (a2 : Int32) : Option (Int32 × pp_M) :=
  some ((((5 : Int32) * (((8 : Int32) * a0) + a1)) + a2), σ)
/-! X9_laysWorth -/
def f_X9_laysWorth_212 (k2 : pp_M → Int32 → Option (pp_M)) (k58 : pp_M → Int32 → Int32 → Option (pp_M)) (k89 : pp_M → Int32 → Int32 → Int64 → Int32 → Option (pp_M)) (k143 : pp_M → Int32 → Int32 → Int64 → Int32 → Int64 → Int64 → Int64 → Int32 → Int32 → Option (pp_M)) (σ : pp_M) (a1 : Int32) (a2 : Int32) (a3 : Int64) (a5 : Int32) (a6 : Int64) (a8 : Int64) (a10 : Int64) (a12 : Int32) (a13 : Int32) : Option (pp_M) :=
  k143 σ a1 a2 a3 a5 a6 a8 a10 a12 (a13 + (-1 : Int32))
def f_X9_laysWorth_143_B (k2 : pp_M → Int32 → Option (pp_M)) (k58 : pp_M → Int32 → Int32 → Option (pp_M)) (k89 : pp_M → Int32 → Int32 → Int64 → Int32 → Option (pp_M)) (k143 : pp_M → Int32 → Int32 → Int64 → Int32 → Int64 → Int64 → Int64 → Int32 → Int32 → Option (pp_M)) (σ : pp_M) (a1 : Int32) (a2 : Int32) (a3 : Int64) (a5 : Int32) (a6 : Int64) (a8 : Int64) (a10 : Int64) (a12 : Int32) (a13 : Int32) : Option (pp_M) :=
  if a13 < 0 then
    (f_X9_spot σ a1 a2 a5).bind fun x226 =>
    if pp_ix x226.1 240 then
    (f_X9_spot (ppT x226.2 56 x226.1.toNatClampNeg a10) a1 a2 a5).bind fun x240 =>
    if pp_ix x240.1 240 then
    k89 (ppS x240.2 57 x240.1.toNatClampNeg a12) a1 a2 a3 (a5 + (1 : Int32))
    else none
    else none
  else
    if pp_ix a2 7 then
    (f_X9_chanceNow σ (σ.1 55 a2.toNatClampNeg) a1 a13).bind fun x158 =>
    if pp_ix (((3 : Int32) * a1) + a13) 18 then
    if (((x158.1.toInt64) * (((((x158.2.1 44 (((3 : Int32) * a1) + a13).toNatClampNeg)).toInt64) * a3) + a8)) + (((16 : Int64) - (x158.1.toInt64)) * a6)) < a10 then
      f_X9_laysWorth_212 k2 k58 k89 k143 x158.2 a1 a2 a3 a5 a6 a8 a10 a12 a13
    else
      f_X9_laysWorth_212 k2 k58 k89 k143 x158.2 a1 a2 a3 a5 a6 a8 (((x158.1.toInt64) * (((((x158.2.1 44 (((3 : Int32) * a1) + a13).toNatClampNeg)).toInt64) * a3) + a8)) + (((16 : Int64) - (x158.1.toInt64)) * a6)) a13 a13
    else none
    else none
def f_X9_laysWorth_143 (k2 : pp_M → Int32 → Option (pp_M)) (k58 : pp_M → Int32 → Int32 → Option (pp_M)) (k89 : pp_M → Int32 → Int32 → Int64 → Int32 → Option (pp_M)) : Nat → pp_M → Int32 → Int32 → Int64 → Int32 → Int64 → Int64 → Int64 → Int32 → Int32 → Option (pp_M)
  | 0 => fun _ _ _ _ _ _ _ _ _ _ => none
  | n + 1 => fun σ a1 a2 a3 a5 a6 a8 a10 a12 a13 => f_X9_laysWorth_143_B k2 k58 k89 (f_X9_laysWorth_143 k2 k58 k89 n) σ a1 a2 a3 a5 a6 a8 a10 a12 a13
def f_X9_laysWorth_89_B (k2 : pp_M → Int32 → Option (pp_M)) (k58 : pp_M → Int32 → Int32 → Option (pp_M)) (k89 : pp_M → Int32 → Int32 → Int64 → Int32 → Option (pp_M)) (σ : pp_M) (a1 : Int32) (a2 : Int32) (a3 : Int64) (a5 : Int32) : Option (pp_M) :=
  if a5 < (5 : Int32) then
    (f_X9_spot σ a1 (a2 + (1 : Int32)) a5).bind fun x105 =>
    if pp_ix x105.1 240 then
    (f_X9_spot x105.2 a1 (a2 + (1 : Int32)) (a5 - (1 : Int32))).bind fun x123 =>
    if pp_ix x123.1 240 then
    f_X9_laysWorth_143 k2 k58 k89 100000 x123.2 a1 a2 a3 a5 (x105.2.2 56 x105.1.toNatClampNeg) (x123.2.2 56 x123.1.toNatClampNeg) ((16 : Int64) * (x105.2.2 56 x105.1.toNatClampNeg)) (3 : Int32) (2 : Int32)
    else none
    else none
  else
    k58 σ a1 (a2 + (-1 : Int32))
def f_X9_laysWorth_89 (k2 : pp_M → Int32 → Option (pp_M)) (k58 : pp_M → Int32 → Int32 → Option (pp_M)) : Nat → pp_M → Int32 → Int32 → Int64 → Int32 → Option (pp_M)
  | 0 => fun _ _ _ _ _ => none
  | n + 1 => fun σ a1 a2 a3 a5 => f_X9_laysWorth_89_B k2 k58 (f_X9_laysWorth_89 k2 k58 n) σ a1 a2 a3 a5
def f_X9_laysWorth_58_B (k2 : pp_M → Int32 → Option (pp_M)) (k58 : pp_M → Int32 → Int32 → Option (pp_M)) (σ : pp_M) (a1 : Int32) (a2 : Int32) : Option (pp_M) :=
  if a2 < 0 then
    k2 σ (a1 + (1 : Int32))
  else
    (f_X9_sixteen σ (((σ.1 40 22) - (1 : Int32)) - a2)).bind fun x70 =>
    (f_X9_spot x70.2 a1 a2 (0 : Int32)).bind fun x81 =>
    if pp_ix x81.1 240 then
    f_X9_laysWorth_89 k2 k58 100000 (ppT x81.2 56 x81.1.toNatClampNeg (0 : Int64)) a1 a2 x70.1 (1 : Int32)
    else none
def f_X9_laysWorth_58 (k2 : pp_M → Int32 → Option (pp_M)) : Nat → pp_M → Int32 → Int32 → Option (pp_M)
  | 0 => fun _ _ _ => none
  | n + 1 => fun σ a1 a2 => f_X9_laysWorth_58_B k2 (f_X9_laysWorth_58 k2 n) σ a1 a2
def f_X9_laysWorth_10_B (k2 : pp_M → Int32 → Option (pp_M)) (k10 : pp_M → Int32 → Int32 → Option (pp_M)) (σ : pp_M) (a1 : Int32) (a2 : Int32) : Option (pp_M) :=
  if a2 < (5 : Int32) then
    (f_X9_spot σ a1 (σ.1 40 22) a2).bind fun x25 =>
    if pp_ix a1 6 then
    if pp_ix x25.1 240 then
    k10 (ppT x25.2 56 x25.1.toNatClampNeg (((a2 * ((x25.2.1 41 a1.toNatClampNeg) - (x25.2.1 43 a1.toNatClampNeg)))).toInt64)) a1 (a2 + (1 : Int32))
    else none
    else none
  else
    f_X9_laysWorth_58 k2 100000 σ a1 ((σ.1 40 22) - (1 : Int32))
def f_X9_laysWorth_10 (k2 : pp_M → Int32 → Option (pp_M)) : Nat → pp_M → Int32 → Int32 → Option (pp_M)
  | 0 => fun _ _ _ => none
  | n + 1 => fun σ a1 a2 => f_X9_laysWorth_10_B k2 (f_X9_laysWorth_10 k2 n) σ a1 a2
def f_X9_laysWorth_2_B (k2 : pp_M → Int32 → Option (pp_M)) (σ : pp_M) (a1 : Int32) : Option (pp_M) :=
  if a1 < (6 : Int32) then
    f_X9_laysWorth_10 k2 100000 σ a1 (0 : Int32)
  else
    some σ
def f_X9_laysWorth_2 : Nat → pp_M → Int32 → Option (pp_M)
  | 0 => fun _ _ => none
  | n + 1 => fun σ a1 => f_X9_laysWorth_2_B (f_X9_laysWorth_2 n) σ a1
def f_X9_laysWorth (σ : pp_M)  : Option (pp_M) :=
  f_X9_laysWorth_2 100000 σ (0 : Int32)
/-! X9_looksAtRow -/
def f_X9_looksAtRow_10_B (k10 : pp_M → Int32 → Option (pp_M)) (σ : pp_M) (a1 : Int32) : Option (pp_M) :=
  if a1 < (σ.1 40 19) then
    if pp_ix a1 7 then
    k10 (ppS σ 55 a1.toNatClampNeg (σ.1 53 a1.toNatClampNeg)) (a1 + (1 : Int32))
    else none
  else
    (f_X9_laysWorth σ).bind fun x37 =>
    some x37
def f_X9_looksAtRow_10 : Nat → pp_M → Int32 → Option (pp_M)
  | 0 => fun _ _ => none
  | n + 1 => fun σ a1 => f_X9_looksAtRow_10_B (f_X9_looksAtRow_10 n) σ a1
def f_X9_looksAtRow (σ : pp_M)  : Option (pp_M) :=
  f_X9_looksAtRow_10 100000 (ppS σ 40 22 (σ.1 40 19)) (0 : Int32)
/-! X9_ask -/
def f_X9_ask (σ : pp_M) (a1 : Int32) (a2 : Int32) (a3 : Int32) : Option (Int32 × pp_M) :=
  (f_X9_isThing σ a1).bind fun x1 =>
  if x1.1 = 0 then
    some ((-2 : Int32), x1.2)
  else
    (f_X9_in x1.2 a2 (0 : Int32) ((x1.2.1 40 19) - (1 : Int32))).bind fun x15 =>
    if x15.1 = 0 then
      some ((-2 : Int32), x15.2)
    else
      (f_X9_in x15.2 a3 (1 : Int32) (4 : Int32)).bind fun x24 =>
      if x24.1 = 0 then
        some ((-2 : Int32), x24.2)
      else
        (f_X9_looksAtRow x24.2).bind fun x34 =>
        (f_X9_spot x34 a1 a2 a3).bind fun x44 =>
        if pp_ix x44.1 240 then
        some ((x44.2.1 57 x44.1.toNatClampNeg), x44.2)
        else none
/-! X9_gainOf -/
def f_X9_gainOf (σ : pp_M) (a1 : Int32) (a2 : Int32) : Option (Int64 × pp_M) :=
  (f_X9_spot σ a1 (0 : Int32) a2).bind fun x7 =>
  if pp_ix x7.1 240 then
  if pp_ix a1 6 then
  (f_X9_sixteen x7.2 (x7.2.1 40 22)).bind fun x24 =>
  some (((x7.2.2 56 x7.1.toNatClampNeg) - ((((a2 * (x7.2.1 41 a1.toNatClampNeg))).toInt64) * x24.1)), x24.2)
  else none
  else none
/-! X9_packs -/
def f_X9_packs_178 (k11 : pp_M → Int32 → Int32 → Int32 → Option (pp_M)) (σ : pp_M) (a1 : Int32) (a2 : Int32) (a3 : Int32) : Option (pp_M) :=
  k11 σ a1 a2 (a3 + (1 : Int32))
def f_X9_packs_150_B (k11 : pp_M → Int32 → Int32 → Int32 → Option (pp_M)) (k150 : pp_M → Int32 → Int32 → Int32 → Int32 → Int32 → Option (pp_M)) (σ : pp_M) (a1 : Int32) (a2 : Int32) (a3 : Int32) (a4 : Int32) (a8 : Int32) : Option (pp_M) :=
  if a8 < 0 then
    f_X9_packs_178 k11 σ a1 a2 a3
  else
    if pp_ix a8 6 then
    k150 (ppS σ 59 a8.toNatClampNeg (a4 - a4 / (5 : Int32) * (5 : Int32))) a1 a2 a3 (a4 / (5 : Int32)) (a8 + (-1 : Int32))
    else none
def f_X9_packs_150 (k11 : pp_M → Int32 → Int32 → Int32 → Option (pp_M)) : Nat → pp_M → Int32 → Int32 → Int32 → Int32 → Int32 → Option (pp_M)
  | 0 => fun _ _ _ _ _ _ => none
  | n + 1 => fun σ a1 a2 a3 a4 a8 => f_X9_packs_150_B k11 (f_X9_packs_150 k11 n) σ a1 a2 a3 a4 a8
def f_X9_packs_135 (k11 : pp_M → Int32 → Int32 → Int32 → Option (pp_M)) (σ : pp_M) (a1 : Int32) (a3 : Int32) (a5 : Int32) (a6 : Int64) : Option (pp_M) :=
  f_X9_packs_150 k11 100000 (ppT σ 40 28 a6) a1 a5 a3 a3 (5 : Int32)
def f_X9_packs_77 (k11 : pp_M → Int32 → Int32 → Int32 → Option (pp_M)) (k30 : pp_M → Int32 → Int32 → Int32 → Int32 → Int32 → Int64 → Int32 → Option (pp_M)) (σ : pp_M) (a1 : Int32) (a2 : Int32) (a3 : Int32) (a4 : Int32) (a6 : Int64) (a8 : Int32) (a9 : Int32) (b0 : Int32) (b1 : Int32) (b2 : Int32) : Option (pp_M) :=
  (f_X9_gainOf σ a8 a9).bind fun x88 =>
  k30 x88.2 a1 a2 a3 a4 (b0 + (b1 + b2)) (a6 + x88.1) (a8 + (-1 : Int32))
def f_X9_packs_76 (k11 : pp_M → Int32 → Int32 → Int32 → Option (pp_M)) (k30 : pp_M → Int32 → Int32 → Int32 → Int32 → Int32 → Int64 → Int32 → Option (pp_M)) (σ : pp_M) (a1 : Int32) (a2 : Int32) (a3 : Int32) (a4 : Int32) (a6 : Int64) (a8 : Int32) (a9 : Int32) (b0 : Int32) (b1 : Int32) : Option (pp_M) :=
  f_X9_packs_77 k11 k30 σ a1 a2 a3 a4 a6 a8 a9 b0 b1 (0 : Int32)
def f_X9_packs_30_B (k11 : pp_M → Int32 → Int32 → Int32 → Option (pp_M)) (k30 : pp_M → Int32 → Int32 → Int32 → Int32 → Int32 → Int64 → Int32 → Option (pp_M)) (σ : pp_M) (a1 : Int32) (a2 : Int32) (a3 : Int32) (a4 : Int32) (a5 : Int32) (a6 : Int64) (a8 : Int32) : Option (pp_M) :=
  if a8 < 0 then
    if (σ.1 40 7) < a5 then
      f_X9_packs_178 k11 σ a1 a2 a3
    else
      if (σ.2 40 28) < a6 then
        f_X9_packs_135 k11 σ a1 a3 a5 a6
      else
        if a6 = (σ.2 40 28) then
          if a5 < a2 then
            f_X9_packs_135 k11 σ a1 a3 a5 a6
          else
            f_X9_packs_178 k11 σ a1 a2 a3
        else
          f_X9_packs_178 k11 σ a1 a2 a3
  else
    if pp_ix a8 6 then
    if a8 = a1 then
      if 0 < (a4 - a4 / (5 : Int32) * (5 : Int32)) then
        f_X9_packs_77 k11 k30 σ a1 a2 a3 (a4 / (5 : Int32)) a6 a8 (a4 - a4 / (5 : Int32) * (5 : Int32)) a5 ((a4 - a4 / (5 : Int32) * (5 : Int32)) * (σ.1 42 a8.toNatClampNeg)) (1000 : Int32)
      else
        f_X9_packs_76 k11 k30 σ a1 a2 a3 (a4 / (5 : Int32)) a6 a8 (a4 - a4 / (5 : Int32) * (5 : Int32)) a5 ((a4 - a4 / (5 : Int32) * (5 : Int32)) * (σ.1 42 a8.toNatClampNeg))
    else
      f_X9_packs_76 k11 k30 σ a1 a2 a3 (a4 / (5 : Int32)) a6 a8 (a4 - a4 / (5 : Int32) * (5 : Int32)) a5 ((a4 - a4 / (5 : Int32) * (5 : Int32)) * (σ.1 42 a8.toNatClampNeg))
    else none
def f_X9_packs_30 (k11 : pp_M → Int32 → Int32 → Int32 → Option (pp_M)) : Nat → pp_M → Int32 → Int32 → Int32 → Int32 → Int32 → Int64 → Int32 → Option (pp_M)
  | 0 => fun _ _ _ _ _ _ _ _ => none
  | n + 1 => fun σ a1 a2 a3 a4 a5 a6 a8 => f_X9_packs_30_B k11 (f_X9_packs_30 k11 n) σ a1 a2 a3 a4 a5 a6 a8
def f_X9_packs_11_B (k11 : pp_M → Int32 → Int32 → Int32 → Option (pp_M)) (σ : pp_M) (a1 : Int32) (a2 : Int32) (a3 : Int32) : Option (pp_M) :=
  if a3 < (15625 : Int32) then
    f_X9_packs_30 k11 100000 σ a1 a2 a3 a3 (0 : Int32) (0 : Int64) (5 : Int32)
  else
    some σ
def f_X9_packs_11 : Nat → pp_M → Int32 → Int32 → Int32 → Option (pp_M)
  | 0 => fun _ _ _ _ => none
  | n + 1 => fun σ a1 a2 a3 => f_X9_packs_11_B (f_X9_packs_11 n) σ a1 a2 a3
def f_X9_packs (σ : pp_M) (a1 : Int32) : Option (pp_M) :=
  f_X9_packs_11 100000 (ppT σ 40 28 (-1000000000000000000 : Int64)) a1 (0 : Int32) (0 : Int32)
/-! X9_weightOf -/
def f_X9_weightOf (σ : pp_M) (a1 : Int32) (a2 : Int32) : Option (Int32 × pp_M) :=
  if pp_ix a1 6 then
  some ((a2 * (σ.1 42 a1.toNatClampNeg)), σ)
  else none
/-! X9_bestNow -/
def f_X9_bestNow_25_B (k25 : pp_M → Int32 → Int32 → Option (Int32 × pp_M)) (σ : pp_M) (a2 : Int32) (a3 : Int32) : Option (Int32 × pp_M) :=
  if a3 < (6 : Int32) then
    if pp_ix a3 6 then
    (f_X9_weightOf σ a3 (σ.1 59 a3.toNatClampNeg)).bind fun x40 =>
    k25 x40.2 (a2 + x40.1) (a3 + (1 : Int32))
    else none
  else
    some (a2, σ)
def f_X9_bestNow_25 : Nat → pp_M → Int32 → Int32 → Option (Int32 × pp_M)
  | 0 => fun _ _ _ => none
  | n + 1 => fun σ a2 a3 => f_X9_bestNow_25_B (f_X9_bestNow_25 n) σ a2 a3
def f_X9_bestNow (σ : pp_M) (a1 : Int32) : Option (Int32 × pp_M) :=
  (f_X9_looksAtRow σ).bind fun x1 =>
  (f_X9_packs x1 (-1 : Int32)).bind fun x6 =>
  if a1 = (-1 : Int32) then
    f_X9_bestNow_25 100000 x6 (0 : Int32) (0 : Int32)
  else
    if pp_ix a1 6 then
    some ((x6.1 59 a1.toNatClampNeg), x6)
    else none
/-! X9_best -/
def f_X9_best_12 (σ : pp_M) (a1 : Int32) : Option (Int32 × pp_M) :=
  (f_X9_bestNow σ a1).bind fun x14 =>
  some (x14.1, x14.2)
def f_X9_best (σ : pp_M) (a1 : Int32) : Option (Int32 × pp_M) :=
  if a1 = (-1 : Int32) then
    f_X9_best_12 σ a1
  else
    (f_X9_isThing σ a1).bind fun x6 =>
    if x6.1 = 0 then
      some ((-2 : Int32), x6.2)
    else
      f_X9_best_12 x6.2 a1
/-! X9_gathers -/
def f_X9_gathers_47 (k7 : pp_M → Int32 → Option (Int32 × pp_M)) (σ : pp_M) (a1 : Int32) : Option (Int32 × pp_M) :=
  k7 σ (a1 + (1 : Int32))
def f_X9_gathers_7_B (k7 : pp_M → Int32 → Option (Int32 × pp_M)) (σ : pp_M) (a1 : Int32) : Option (Int32 × pp_M) :=
  if (7 : Int32) < a1 then
    if (5 : Int32) < (σ.1 40 32) then
      some ((0 : Int32), σ)
    else
      some ((1 : Int32), σ)
  else
    if (((σ.1 40 8) >>> ((a1 - (1 : Int32)) &&& 31)) &&& (1 : Int32)) = (1 : Int32) then
      if pp_ix (σ.1 40 32) 7 then
      f_X9_gathers_47 k7 (ppS (ppS σ 61 (σ.1 40 32).toNatClampNeg a1) 40 32 (((ppS σ 61 (σ.1 40 32).toNatClampNeg a1).1 40 32) + (1 : Int32))) a1
      else none
    else
      f_X9_gathers_47 k7 σ a1
def f_X9_gathers_7 : Nat → pp_M → Int32 → Option (Int32 × pp_M)
  | 0 => fun _ _ => none
  | n + 1 => fun σ a1 => f_X9_gathers_7_B (f_X9_gathers_7 n) σ a1
def f_X9_gathers (σ : pp_M)  : Option (Int32 × pp_M) :=
  f_X9_gathers_7 100000 (ppS σ 40 32 (0 : Int32)) (1 : Int32)
/-! X9_lowest -/
def f_X9_lowest_17_B (k17 : pp_M → Int64 → Int64 → Int32 → Int64 → Int64 → Option (Int64 × pp_M)) (σ : pp_M) (a0 : Int64) (a2 : Int64) (a4 : Int32) (a5 : Int64) (a7 : Int64) : Option (Int64 × pp_M) :=
  if a7 = (0 : Int64) then
    if a4 = 0 then
      if ¬ a5 = 0 then
      some ((a0 / a5), σ)
      else none
    else
      if ¬ a5 = 0 then
      some ((a2 / a5), σ)
      else none
  else
    if ¬ a7 = 0 then
    k17 σ a0 a2 a4 a7 (a5 - a5 / a7 * a7)
    else none
def f_X9_lowest_17 : Nat → pp_M → Int64 → Int64 → Int32 → Int64 → Int64 → Option (Int64 × pp_M)
  | 0 => fun _ _ _ _ _ _ => none
  | n + 1 => fun σ a0 a2 a4 a5 a7 => f_X9_lowest_17_B (f_X9_lowest_17 n) σ a0 a2 a4 a5 a7
def f_X9_lowest_12 (σ : pp_M) (a0 : Int64) (a2 : Int64) (a4 : Int32) (b0 : Int64) : Option (Int64 × pp_M) :=
  f_X9_lowest_17 100000 σ a0 a2 a4 b0 a2
def f_X9_lowest (σ : pp_M) (a0 : Int64) (a2 : Int64) (a4 : Int32) : Option (Int64 × pp_M) :=
  if a0 < (0 : Int64) then
    f_X9_lowest_12 σ a0 a2 a4 (-a0)
  else
    f_X9_lowest_12 σ a0 a2 a4 a0
/-! X9_no -/
def f_X9_no (σ : pp_M) (a0 : Int32) : Option (Int64 × pp_M) :=
  some (((-9223372036854775808 : Int64) - (a0.toInt64)), σ)
/-! X9_fives -/
def f_X9_fives_4_B (k4 : pp_M → Int32 → Int32 → Int32 → Option (Int32 × pp_M)) (σ : pp_M) (a0 : Int32) (a1 : Int32) (a2 : Int32) : Option (Int32 × pp_M) :=
  if a2 < a0 then
    k4 σ a0 (a1 * (5 : Int32)) (a2 + (1 : Int32))
  else
    some (a1, σ)
def f_X9_fives_4 : Nat → pp_M → Int32 → Int32 → Int32 → Option (Int32 × pp_M)
  | 0 => fun _ _ _ _ => none
  | n + 1 => fun σ a0 a1 a2 => f_X9_fives_4_B (f_X9_fives_4 n) σ a0 a1 a2
def f_X9_fives (σ : pp_M) (a0 : Int32) : Option (Int32 × pp_M) :=
  f_X9_fives_4 100000 σ a0 (1 : Int32) (0 : Int32)
/-! X9_hoursFrom -/
def f_X9_hoursFrom_7_B (k7 : pp_M → Int32 → Int32 → Int32 → Option (Int32 × pp_M)) (σ : pp_M) (a2 : Int32) (a3 : Int32) (a4 : Int32) : Option (Int32 × pp_M) :=
  if a4 < (σ.1 40 22) then
    if pp_ix a4 7 then
    if pp_ix (((8 : Int32) * a3) + (σ.1 55 a4.toNatClampNeg)) 64 then
    k7 σ (a2 + (σ.1 46 (((8 : Int32) * a3) + (σ.1 55 a4.toNatClampNeg)).toNatClampNeg)) (σ.1 55 a4.toNatClampNeg) (a4 + (1 : Int32))
    else none
    else none
  else
    if pp_ix ((8 : Int32) * a3) 64 then
    some ((a2 + (σ.1 46 ((8 : Int32) * a3).toNatClampNeg)), σ)
    else none
def f_X9_hoursFrom_7 : Nat → pp_M → Int32 → Int32 → Int32 → Option (Int32 × pp_M)
  | 0 => fun _ _ _ _ => none
  | n + 1 => fun σ a2 a3 a4 => f_X9_hoursFrom_7_B (f_X9_hoursFrom_7 n) σ a2 a3 a4
def f_X9_hoursFrom (σ : pp_M) (a1 : Int32) : Option (Int32 × pp_M) :=
  f_X9_hoursFrom_7 100000 σ (0 : Int32) a1 (0 : Int32)
/-! X9_laysWays -/
def f_X9_laysWays_127 (k58 : pp_M → Int32 → Option (pp_M)) (k66 : pp_M → Int32 → Int32 → Option (pp_M)) (σ : pp_M) (a1 : Int32) (a2 : Int32) (b1 : Int32) (b2 : Int32) : Option (pp_M) :=
  if pp_ix b1 64 then
  k66 (ppS σ 46 b1.toNatClampNeg b2) a1 (a2 + (1 : Int32))
  else none
def f_X9_laysWays_66_B (k58 : pp_M → Int32 → Option (pp_M)) (k66 : pp_M → Int32 → Int32 → Option (pp_M)) (σ : pp_M) (a1 : Int32) (a2 : Int32) : Option (pp_M) :=
  if a2 < (64 : Int32) then
    if pp_ix (((a2 / (8 : Int32)) * (8 : Int32)) + a1) 64 then
    if pp_ix (((8 : Int32) * a1) + (a2 - a2 / (8 : Int32) * (8 : Int32))) 64 then
    if pp_ix a2 64 then
    if ((σ.1 46 (((a2 / (8 : Int32)) * (8 : Int32)) + a1).toNatClampNeg) + (σ.1 46 (((8 : Int32) * a1) + (a2 - a2 / (8 : Int32) * (8 : Int32))).toNatClampNeg)) < (σ.1 46 a2.toNatClampNeg) then
      f_X9_laysWays_127 k58 k66 σ a1 a2 a2 ((σ.1 46 (((a2 / (8 : Int32)) * (8 : Int32)) + a1).toNatClampNeg) + (σ.1 46 (((8 : Int32) * a1) + (a2 - a2 / (8 : Int32) * (8 : Int32))).toNatClampNeg))
    else
      f_X9_laysWays_127 k58 k66 σ a1 a2 a2 (σ.1 46 a2.toNatClampNeg)
    else none
    else none
    else none
  else
    k58 σ (a1 + (1 : Int32))
def f_X9_laysWays_66 (k58 : pp_M → Int32 → Option (pp_M)) : Nat → pp_M → Int32 → Int32 → Option (pp_M)
  | 0 => fun _ _ _ => none
  | n + 1 => fun σ a1 a2 => f_X9_laysWays_66_B k58 (f_X9_laysWays_66 k58 n) σ a1 a2
def f_X9_laysWays_58_B (k58 : pp_M → Int32 → Option (pp_M)) (σ : pp_M) (a1 : Int32) : Option (pp_M) :=
  if a1 < (8 : Int32) then
    f_X9_laysWays_66 k58 100000 σ a1 (0 : Int32)
  else
    some σ
def f_X9_laysWays_58 : Nat → pp_M → Int32 → Option (pp_M)
  | 0 => fun _ _ => none
  | n + 1 => fun σ a1 => f_X9_laysWays_58_B (f_X9_laysWays_58 n) σ a1
def f_X9_laysWays_49 (k2 : pp_M → Int32 → Option (pp_M)) (σ : pp_M) (a1 : Int32) (b1 : Int32) (b2 : Int32) : Option (pp_M) :=
  if pp_ix b1 64 then
  k2 (ppS σ 46 b1.toNatClampNeg b2) (a1 + (1 : Int32))
  else none
def f_X9_laysWays_2_B (k2 : pp_M → Int32 → Option (pp_M)) (σ : pp_M) (a1 : Int32) : Option (pp_M) :=
  if a1 < (64 : Int32) then
    if (a1 / (8 : Int32)) = (a1 - a1 / (8 : Int32) * (8 : Int32)) then
      f_X9_laysWays_49 k2 σ a1 a1 (0 : Int32)
    else
      if pp_ix a1 64 then
      if 0 < (σ.1 45 a1.toNatClampNeg) then
        f_X9_laysWays_49 k2 σ a1 a1 (σ.1 45 a1.toNatClampNeg)
      else
        f_X9_laysWays_49 k2 σ a1 a1 (1000 : Int32)
      else none
  else
    f_X9_laysWays_58 100000 σ (0 : Int32)
def f_X9_laysWays_2 : Nat → pp_M → Int32 → Option (pp_M)
  | 0 => fun _ _ => none
  | n + 1 => fun σ a1 => f_X9_laysWays_2_B (f_X9_laysWays_2 n) σ a1
def f_X9_laysWays (σ : pp_M)  : Option (pp_M) :=
  f_X9_laysWays_2 100000 σ (0 : Int32)
/-! X9_looksAt -/
def f_X9_looksAt_15_B (k15 : pp_M → Int32 → Int32 → Int32 → Option (Int32 × pp_M)) (σ : pp_M) (a3 : Int32) (a4 : Int32) (a5 : Int32) : Option (Int32 × pp_M) :=
  if a5 < 0 then
    some (a4, σ)
  else
    if (a3 - a3 / (5 : Int32) * (5 : Int32)) < (σ.1 40 32) then
      if ((a4 >>> ((a3 - a3 / (5 : Int32) * (5 : Int32)) &&& 31)) &&& (1 : Int32)) = (1 : Int32) then
        some ((-1 : Int32), σ)
      else
        if pp_ix (a3 - a3 / (5 : Int32) * (5 : Int32)) 7 then
        if pp_ix a5 7 then
        k15 (ppS σ 55 a5.toNatClampNeg (σ.1 61 (a3 - a3 / (5 : Int32) * (5 : Int32)).toNatClampNeg)) (a3 / (5 : Int32)) (a4 ||| ((1 : Int32) <<< ((a3 - a3 / (5 : Int32) * (5 : Int32)) &&& 31))) (a5 + (-1 : Int32))
        else none
        else none
    else
      some ((-1 : Int32), σ)
def f_X9_looksAt_15 : Nat → pp_M → Int32 → Int32 → Int32 → Option (Int32 × pp_M)
  | 0 => fun _ _ _ _ => none
  | n + 1 => fun σ a3 a4 a5 => f_X9_looksAt_15_B (f_X9_looksAt_15 n) σ a3 a4 a5
def f_X9_looksAt (σ : pp_M) (a1 : Int32) (a2 : Int32) : Option (Int32 × pp_M) :=
  f_X9_looksAt_15 100000 (ppS σ 40 22 a1) a2 (0 : Int32) (a1 - (1 : Int32))
/-! X9_mostGain -/
def f_X9_mostGain_122 (k29 : pp_M → Int32 → Option (Int64 × pp_M)) (k40 : pp_M → Int32 → Int32 → Option (Int64 × pp_M)) (σ : pp_M) (a1 : Int32) (a2 : Int32) : Option (Int64 × pp_M) :=
  k40 σ a1 (a2 + (-1 : Int32))
def f_X9_mostGain_115 (k29 : pp_M → Int32 → Option (Int64 × pp_M)) (k40 : pp_M → Int32 → Int32 → Option (Int64 × pp_M)) (k46 : pp_M → Int32 → Int32 → Int32 → Option (Int64 × pp_M)) (σ : pp_M) (a1 : Int32) (a2 : Int32) (a3 : Int32) (b1 : Int32) (b2 : Int64) : Option (Int64 × pp_M) :=
  if pp_ix b1 101 then
  k46 (ppT σ 62 b1.toNatClampNeg b2) a1 a2 (a3 + (1 : Int32))
  else none
def f_X9_mostGain_46_B (k29 : pp_M → Int32 → Option (Int64 × pp_M)) (k40 : pp_M → Int32 → Int32 → Option (Int64 × pp_M)) (k46 : pp_M → Int32 → Int32 → Int32 → Option (Int64 × pp_M)) (σ : pp_M) (a1 : Int32) (a2 : Int32) (a3 : Int32) : Option (Int64 × pp_M) :=
  if a3 < (5 : Int32) then
    if pp_ix a1 6 then
    if a2 < (a3 * (σ.1 42 a1.toNatClampNeg)) then
      f_X9_mostGain_122 k29 k40 σ a1 a2
    else
      if pp_ix (a2 - (a3 * (σ.1 42 a1.toNatClampNeg))) 101 then
      (f_X9_gainOf σ a1 a3).bind fun x81 =>
      if pp_ix a2 101 then
      if (x81.2.2 62 a2.toNatClampNeg) < ((σ.2 62 (a2 - (a3 * (σ.1 42 a1.toNatClampNeg))).toNatClampNeg) + x81.1) then
        f_X9_mostGain_115 k29 k40 k46 x81.2 a1 a2 a3 a2 ((σ.2 62 (a2 - (a3 * (σ.1 42 a1.toNatClampNeg))).toNatClampNeg) + x81.1)
      else
        f_X9_mostGain_115 k29 k40 k46 x81.2 a1 a2 a3 a2 (x81.2.2 62 a2.toNatClampNeg)
      else none
      else none
    else none
  else
    f_X9_mostGain_122 k29 k40 σ a1 a2
def f_X9_mostGain_46 (k29 : pp_M → Int32 → Option (Int64 × pp_M)) (k40 : pp_M → Int32 → Int32 → Option (Int64 × pp_M)) : Nat → pp_M → Int32 → Int32 → Int32 → Option (Int64 × pp_M)
  | 0 => fun _ _ _ _ => none
  | n + 1 => fun σ a1 a2 a3 => f_X9_mostGain_46_B k29 k40 (f_X9_mostGain_46 k29 k40 n) σ a1 a2 a3
def f_X9_mostGain_40_B (k29 : pp_M → Int32 → Option (Int64 × pp_M)) (k40 : pp_M → Int32 → Int32 → Option (Int64 × pp_M)) (σ : pp_M) (a1 : Int32) (a2 : Int32) : Option (Int64 × pp_M) :=
  if 0 < a2 then
    f_X9_mostGain_46 k29 k40 100000 σ a1 a2 (1 : Int32)
  else
    k29 σ (a1 + (1 : Int32))
def f_X9_mostGain_40 (k29 : pp_M → Int32 → Option (Int64 × pp_M)) : Nat → pp_M → Int32 → Int32 → Option (Int64 × pp_M)
  | 0 => fun _ _ _ => none
  | n + 1 => fun σ a1 a2 => f_X9_mostGain_40_B k29 (f_X9_mostGain_40 k29 n) σ a1 a2
def f_X9_mostGain_29_B (k29 : pp_M → Int32 → Option (Int64 × pp_M)) (σ : pp_M) (a1 : Int32) : Option (Int64 × pp_M) :=
  if a1 < (6 : Int32) then
    f_X9_mostGain_40 k29 100000 σ a1 (σ.1 40 7)
  else
    if pp_ix (σ.1 40 7) 101 then
    (f_X9_sixteen σ ((5 : Int32) - (σ.1 40 22))).bind fun x149 =>
    some (((σ.2 62 (σ.1 40 7).toNatClampNeg) * x149.1), x149.2)
    else none
def f_X9_mostGain_29 : Nat → pp_M → Int32 → Option (Int64 × pp_M)
  | 0 => fun _ _ => none
  | n + 1 => fun σ a1 => f_X9_mostGain_29_B (f_X9_mostGain_29 n) σ a1
def f_X9_mostGain_6_B (k6 : pp_M → Int32 → Option (Int64 × pp_M)) (σ : pp_M) (a1 : Int32) : Option (Int64 × pp_M) :=
  if (σ.1 40 7) < a1 then
    f_X9_mostGain_29 100000 σ (0 : Int32)
  else
    if pp_ix a1 101 then
    k6 (ppT σ 62 a1.toNatClampNeg (0 : Int64)) (a1 + (1 : Int32))
    else none
def f_X9_mostGain_6 : Nat → pp_M → Int32 → Option (Int64 × pp_M)
  | 0 => fun _ _ => none
  | n + 1 => fun σ a1 => f_X9_mostGain_6_B (f_X9_mostGain_6 n) σ a1
def f_X9_mostGain (σ : pp_M)  : Option (Int64 × pp_M) :=
  (f_X9_laysWorth σ).bind fun x1 =>
  f_X9_mostGain_6 100000 x1 (0 : Int32)
/-! X9_goesRound -/
def f_X9_goesRound_168 (k41 : pp_M → Int32 → Option (pp_M)) (k51 : pp_M → Int32 → Int32 → Option (pp_M)) (σ : pp_M) (a1 : Int32) (a2 : Int32) : Option (pp_M) :=
  k51 σ a1 (a2 + (1 : Int32))
def f_X9_goesRound_142_B (k41 : pp_M → Int32 → Option (pp_M)) (k51 : pp_M → Int32 → Int32 → Option (pp_M)) (k142 : pp_M → Int32 → Int32 → Int32 → Option (pp_M)) (σ : pp_M) (a1 : Int32) (a2 : Int32) (a6 : Int32) : Option (pp_M) :=
  if a6 < a1 then
    if pp_ix a6 7 then
    if pp_ix a6 5 then
    k142 (ppS σ 63 a6.toNatClampNeg (σ.1 55 a6.toNatClampNeg)) a1 a2 (a6 + (1 : Int32))
    else none
    else none
  else
    f_X9_goesRound_168 k41 k51 σ a1 a2
def f_X9_goesRound_142 (k41 : pp_M → Int32 → Option (pp_M)) (k51 : pp_M → Int32 → Int32 → Option (pp_M)) : Nat → pp_M → Int32 → Int32 → Int32 → Option (pp_M)
  | 0 => fun _ _ _ _ => none
  | n + 1 => fun σ a1 a2 a6 => f_X9_goesRound_142_B k41 k51 (f_X9_goesRound_142 k41 k51 n) σ a1 a2 a6
def f_X9_goesRound_117 (k41 : pp_M → Int32 → Option (pp_M)) (k51 : pp_M → Int32 → Int32 → Option (pp_M)) (σ : pp_M) (a1 : Int32) (a2 : Int32) (a4 : Int64) (b1 : Int32) (b2 : Int64) : Option (pp_M) :=
  if pp_ix b1 32 then
  if ((ppT σ 64 b1.toNatClampNeg b2).2 40 36) < a4 then
    f_X9_goesRound_142 k41 k51 100000 (ppS (ppT (ppT σ 64 b1.toNatClampNeg b2) 40 36 a4) 40 34 a1) a1 a2 (0 : Int32)
  else
    f_X9_goesRound_168 k41 k51 (ppT σ 64 b1.toNatClampNeg b2) a1 a2
  else none
def f_X9_goesRound_51_B (k41 : pp_M → Int32 → Option (pp_M)) (k51 : pp_M → Int32 → Int32 → Option (pp_M)) (σ : pp_M) (a1 : Int32) (a2 : Int32) : Option (pp_M) :=
  (f_X9_fives σ a1).bind fun x53 =>
  if a2 < x53.1 then
    (f_X9_looksAt x53.2 a1 a2).bind fun x62 =>
    if x62.1 = (-1 : Int32) then
      f_X9_goesRound_168 k41 k51 x62.2 a1 a2
    else
      (f_X9_hoursFrom x62.2 (0 : Int32)).bind fun x73 =>
      if (x73.2.1 40 6) < x73.1 then
        f_X9_goesRound_168 k41 k51 x73.2 a1 a2
      else
        (f_X9_mostGain x73.2).bind fun x84 =>
        if pp_ix x62.1 32 then
        if (x84.2.2 64 x62.1.toNatClampNeg) < x84.1 then
          f_X9_goesRound_117 k41 k51 x84.2 a1 a2 x84.1 x62.1 x84.1
        else
          f_X9_goesRound_117 k41 k51 x84.2 a1 a2 x84.1 x62.1 (x84.2.2 64 x62.1.toNatClampNeg)
        else none
  else
    k41 x53.2 (a1 + (1 : Int32))
def f_X9_goesRound_51 (k41 : pp_M → Int32 → Option (pp_M)) : Nat → pp_M → Int32 → Int32 → Option (pp_M)
  | 0 => fun _ _ _ => none
  | n + 1 => fun σ a1 a2 => f_X9_goesRound_51_B k41 (f_X9_goesRound_51 k41 n) σ a1 a2
def f_X9_goesRound_41_B (k41 : pp_M → Int32 → Option (pp_M)) (σ : pp_M) (a1 : Int32) : Option (pp_M) :=
  if (σ.1 40 32) < a1 then
    some σ
  else
    f_X9_goesRound_51 k41 100000 σ a1 (0 : Int32)
def f_X9_goesRound_41 : Nat → pp_M → Int32 → Option (pp_M)
  | 0 => fun _ _ => none
  | n + 1 => fun σ a1 => f_X9_goesRound_41_B (f_X9_goesRound_41 n) σ a1
def f_X9_goesRound_18_B (k18 : pp_M → Int32 → Option (pp_M)) (σ : pp_M) (a1 : Int32) : Option (pp_M) :=
  if a1 < (32 : Int32) then
    if pp_ix a1 32 then
    k18 (ppT σ 64 a1.toNatClampNeg (-1000000000000000000 : Int64)) (a1 + (1 : Int32))
    else none
  else
    f_X9_goesRound_41 100000 σ (0 : Int32)
def f_X9_goesRound_18 : Nat → pp_M → Int32 → Option (pp_M)
  | 0 => fun _ _ => none
  | n + 1 => fun σ a1 => f_X9_goesRound_18_B (f_X9_goesRound_18 n) σ a1
def f_X9_goesRound (σ : pp_M)  : Option (pp_M) :=
  (f_X9_laysWays σ).bind fun x1 =>
  f_X9_goesRound_18 100000 (ppT (ppS x1 40 34 (0 : Int32)) 40 36 (-1000000000000000000 : Int64)) (0 : Int32)
/-! X9_parted -/
def f_X9_parted_115 (k13 : pp_M → Int32 → Option (pp_M)) (k25 : pp_M → Int32 → Int32 → Option (pp_M)) (σ : pp_M) (a1 : Int32) (a2 : Int32) : Option (pp_M) :=
  k25 σ a1 (a2 + (1 : Int32))
def f_X9_parted_25_B (k13 : pp_M → Int32 → Option (pp_M)) (k25 : pp_M → Int32 → Int32 → Option (pp_M)) (σ : pp_M) (a1 : Int32) (a2 : Int32) : Option (pp_M) :=
  if a2 < ((1 : Int32) <<< ((σ.1 40 32) &&& 31)) then
    if (a1 &&& a2) = 0 then
      if pp_ix a1 32 then
      if (σ.2 64 a1.toNatClampNeg) = (-1000000000000000000 : Int64) then
        f_X9_parted_115 k13 k25 σ a1 a2
      else
        if pp_ix a2 32 then
        if (σ.2 64 a2.toNatClampNeg) = (-1000000000000000000 : Int64) then
          f_X9_parted_115 k13 k25 σ a1 a2
        else
          if (σ.2 40 40) < ((σ.2 64 a1.toNatClampNeg) + (σ.2 64 a2.toNatClampNeg)) then
            f_X9_parted_115 k13 k25 (ppS (ppS (ppT σ 40 40 ((σ.2 64 a1.toNatClampNeg) + (σ.2 64 a2.toNatClampNeg))) 40 38 a1) 40 39 a2) a1 a2
          else
            f_X9_parted_115 k13 k25 σ a1 a2
        else none
      else none
    else
      f_X9_parted_115 k13 k25 σ a1 a2
  else
    k13 σ (a1 + (1 : Int32))
def f_X9_parted_25 (k13 : pp_M → Int32 → Option (pp_M)) : Nat → pp_M → Int32 → Int32 → Option (pp_M)
  | 0 => fun _ _ _ => none
  | n + 1 => fun σ a1 a2 => f_X9_parted_25_B k13 (f_X9_parted_25 k13 n) σ a1 a2
def f_X9_parted_13_B (k13 : pp_M → Int32 → Option (pp_M)) (σ : pp_M) (a1 : Int32) : Option (pp_M) :=
  if a1 < ((1 : Int32) <<< ((σ.1 40 32) &&& 31)) then
    f_X9_parted_25 k13 100000 σ a1 (0 : Int32)
  else
    some σ
def f_X9_parted_13 : Nat → pp_M → Int32 → Option (pp_M)
  | 0 => fun _ _ => none
  | n + 1 => fun σ a1 => f_X9_parted_13_B (f_X9_parted_13 n) σ a1
def f_X9_parted (σ : pp_M)  : Option (pp_M) :=
  (f_X9_goesRound σ).bind fun x1 =>
  f_X9_parted_13 100000 (ppT x1 40 40 (-1000000000000000000 : Int64)) (0 : Int32)
/-! X9_both -/
def f_X9_both (σ : pp_M) (a1 : Int32) : Option (Int64 × pp_M) :=
  (f_X9_in σ a1 (0 : Int32) (1 : Int32)).bind fun x3 =>
  if x3.1 = 0 then
    (f_X9_no x3.2 (-2 : Int32)).bind fun x11 =>
    some (x11.1, x11.2)
  else
    (f_X9_gathers x3.2).bind fun x16 =>
    if x16.1 = 0 then
      (f_X9_no x16.2 (-4 : Int32)).bind fun x24 =>
      some (x24.1, x24.2)
    else
      (f_X9_parted x16.2).bind fun x29 =>
      (f_X9_sixteen x29 (5 : Int32)).bind fun x37 =>
      (f_X9_lowest x37.2 (x29.2 40 40) x37.1 a1).bind fun x41 =>
      some (x41.1, x41.2)
/-! X9_boundNow -/
def f_X9_boundNow_135 (σ : pp_M) (a1 : Int32) (a4 : Int64) : Option (Int64 × pp_M) :=
  (f_X9_sixteen σ (σ.1 40 22)).bind fun x141 =>
  (f_X9_lowest x141.2 a4 x141.1 a1).bind fun x145 =>
  some (x145.1, x145.2)
def f_X9_boundNow_119 (k14 : pp_M → Int32 → Int32 → Int32 → Int64 → Option (Int64 × pp_M)) (k23 : pp_M → Int32 → Int32 → Int32 → Int64 → Int32 → Int64 → Int32 → Option (Int64 × pp_M)) (σ : pp_M) (a1 : Int32) (a2 : Int32) (a3 : Int32) (a4 : Int64) (a6 : Int32) (a7 : Int64) (a9 : Int32) : Option (Int64 × pp_M) :=
  k23 σ a1 a2 a3 a4 a6 a7 (a9 + (1 : Int32))
def f_X9_boundNow_111 (k14 : pp_M → Int32 → Int32 → Int32 → Int64 → Option (Int64 × pp_M)) (k23 : pp_M → Int32 → Int32 → Int32 → Int64 → Int32 → Int64 → Int32 → Option (Int64 × pp_M)) (σ : pp_M) (a1 : Int32) (a2 : Int32) (a3 : Int32) (a4 : Int64) (a9 : Int32) (a11 : Int64) : Option (Int64 × pp_M) :=
  f_X9_boundNow_119 k14 k23 σ a1 a2 a3 a4 a9 a11 a9
def f_X9_boundNow_23_B (k14 : pp_M → Int32 → Int32 → Int32 → Int64 → Option (Int64 × pp_M)) (k23 : pp_M → Int32 → Int32 → Int32 → Int64 → Int32 → Int64 → Int32 → Option (Int64 × pp_M)) (σ : pp_M) (a1 : Int32) (a2 : Int32) (a3 : Int32) (a4 : Int64) (a6 : Int32) (a7 : Int64) (a9 : Int32) : Option (Int64 × pp_M) :=
  if a9 < (24 : Int32) then
    (f_X9_gainOf σ (a9 / (4 : Int32)) ((a9 - a9 / (4 : Int32) * (4 : Int32)) + (1 : Int32))).bind fun x45 =>
    (f_X9_gainOf x45.2 (a9 / (4 : Int32)) (a9 - a9 / (4 : Int32) * (4 : Int32))).bind fun x55 =>
    if ((a2 >>> (a9 &&& 31)) &&& (1 : Int32)) = 0 then
      if (0 : Int64) < (x45.1 - x55.1) then
        if a6 = (-1 : Int32) then
          f_X9_boundNow_111 k14 k23 x55.2 a1 a2 a3 a4 a9 (x45.1 - x55.1)
        else
          if pp_ix (a6 / (4 : Int32)) 6 then
          if pp_ix (a9 / (4 : Int32)) 6 then
          if (a7 * (((x55.2.1 42 (a9 / (4 : Int32)).toNatClampNeg)).toInt64)) < ((x45.1 - x55.1) * (((x55.2.1 42 (a6 / (4 : Int32)).toNatClampNeg)).toInt64)) then
            f_X9_boundNow_111 k14 k23 x55.2 a1 a2 a3 a4 a9 (x45.1 - x55.1)
          else
            f_X9_boundNow_119 k14 k23 x55.2 a1 a2 a3 a4 a6 a7 a9
          else none
          else none
      else
        f_X9_boundNow_119 k14 k23 x55.2 a1 a2 a3 a4 a6 a7 a9
    else
      f_X9_boundNow_119 k14 k23 x55.2 a1 a2 a3 a4 a6 a7 a9
  else
    if a6 = (-1 : Int32) then
      f_X9_boundNow_135 σ a1 a4
    else
      if a3 = 0 then
        f_X9_boundNow_135 σ a1 a4
      else
        if pp_ix (a6 / (4 : Int32)) 6 then
        if a3 < (σ.1 42 (a6 / (4 : Int32)).toNatClampNeg) then
          (f_X9_sixteen σ (σ.1 40 22)).bind fun x182 =>
          (f_X9_lowest x182.2 ((a4 * (((σ.1 42 (a6 / (4 : Int32)).toNatClampNeg)).toInt64)) + (a7 * (a3.toInt64))) (x182.1 * (((σ.1 42 (a6 / (4 : Int32)).toNatClampNeg)).toInt64)) a1).bind fun x190 =>
          some (x190.1, x190.2)
        else
          k14 σ a1 (a2 ||| ((1 : Int32) <<< (a6 &&& 31))) (a3 - (σ.1 42 (a6 / (4 : Int32)).toNatClampNeg)) (a4 + a7)
        else none
def f_X9_boundNow_23 (k14 : pp_M → Int32 → Int32 → Int32 → Int64 → Option (Int64 × pp_M)) : Nat → pp_M → Int32 → Int32 → Int32 → Int64 → Int32 → Int64 → Int32 → Option (Int64 × pp_M)
  | 0 => fun _ _ _ _ _ _ _ _ => none
  | n + 1 => fun σ a1 a2 a3 a4 a6 a7 a9 => f_X9_boundNow_23_B k14 (f_X9_boundNow_23 k14 n) σ a1 a2 a3 a4 a6 a7 a9
def f_X9_boundNow_14_B (k14 : pp_M → Int32 → Int32 → Int32 → Int64 → Option (Int64 × pp_M)) (σ : pp_M) (a1 : Int32) (a2 : Int32) (a3 : Int32) (a4 : Int64) : Option (Int64 × pp_M) :=
  f_X9_boundNow_23 k14 100000 σ a1 a2 a3 a4 (-1 : Int32) (0 : Int64) (0 : Int32)
def f_X9_boundNow_14 : Nat → pp_M → Int32 → Int32 → Int32 → Int64 → Option (Int64 × pp_M)
  | 0 => fun _ _ _ _ _ => none
  | n + 1 => fun σ a1 a2 a3 a4 => f_X9_boundNow_14_B (f_X9_boundNow_14 n) σ a1 a2 a3 a4
def f_X9_boundNow (σ : pp_M) (a1 : Int32) : Option (Int64 × pp_M) :=
  (f_X9_looksAtRow σ).bind fun x1 =>
  f_X9_boundNow_14 100000 x1 a1 (0 : Int32) (x1.1 40 7) (0 : Int64)
/-! X9_bringsNow -/
def f_X9_bringsNow (σ : pp_M) (a1 : Int32) : Option (Int64 × pp_M) :=
  (f_X9_packs σ (-1 : Int32)).bind fun x2 =>
  (f_X9_packs x2 a1).bind fun x12 =>
  some (((x2.2 40 28) - (x12.2 40 28)), x12)
/-! X9_brings -/
def f_X9_brings_16 (σ : pp_M)  : Option (Int64 × pp_M) :=
  (f_X9_no σ (-2 : Int32)).bind fun x18 =>
  some (x18.1, x18.2)
def f_X9_brings (σ : pp_M) (a1 : Int32) (a2 : Int32) : Option (Int64 × pp_M) :=
  (f_X9_isThing σ a1).bind fun x1 =>
  if x1.1 = 0 then
    f_X9_brings_16 x1.2
  else
    (f_X9_in x1.2 a2 (0 : Int32) (1 : Int32)).bind fun x10 =>
    if x10.1 = 0 then
      f_X9_brings_16 x10.2
    else
      (f_X9_looksAtRow x10.2).bind fun x23 =>
      (f_X9_bringsNow x23 a1).bind fun x28 =>
      (f_X9_sixteen x28.2 (x28.2.1 40 19)).bind fun x35 =>
      (f_X9_lowest x35.2 x28.1 x35.1 a2).bind fun x39 =>
      some (x39.1, x39.2)
/-! X9_byteNow -/
def f_X9_byteNow (σ : pp_M)  : Option (Int32 × pp_M) :=
  if (σ.1 40 13) < (σ.1 40 11) then
    if pp_ix (σ.1 40 13) 40 then
    some ((σ.1 49 (σ.1 40 13).toNatClampNeg), σ)
    else none
  else
    some ((-1 : Int32), σ)
/-! X9_isFarm -/
def f_X9_isFarm (σ : pp_M) (a0 : Int32) : Option (Int32 × pp_M) :=
  (f_X9_in σ a0 (1 : Int32) (7 : Int32)).bind fun x4 =>
  if pp_b x4.1 then
  some (x4.1, x4.2)
  else none
/-! X9_chance -/
def f_X9_chance (σ : pp_M) (a1 : Int32) (a2 : Int32) (a3 : Int32) : Option (Int32 × pp_M) :=
  (f_X9_isFarm σ a1).bind fun x1 =>
  if x1.1 = 0 then
    some ((-2 : Int32), x1.2)
  else
    (f_X9_isThing x1.2 a2).bind fun x8 =>
    if x8.1 = 0 then
      some ((-2 : Int32), x8.2)
    else
      (f_X9_in x8.2 a3 (0 : Int32) (2 : Int32)).bind fun x17 =>
      if x17.1 = 0 then
        some ((-2 : Int32), x17.2)
      else
        (f_X9_chanceNow x17.2 a1 a2 a3).bind fun x27 =>
        some (x27.1, x27.2)
/-! X9_isSheet -/
def f_X9_isSheet (σ : pp_M) (a0 : Int32) : Option (Int32 × pp_M) :=
  (f_X9_in σ a0 (0 : Int32) (3 : Int32)).bind fun x3 =>
  if pp_b x3.1 then
  some (x3.1, x3.2)
  else none
/-! X9_meets -/
def f_X9_meets (σ : pp_M) (a1 : Int32) : Option (Int32 × pp_M) :=
  some (((-10 : Int32) - a1), ppS σ 40 47 a1)
/-! X9_copy -/
def f_X9_copy_157_B (k157 : pp_M → Int32 → Int32 → Int32 → Int32 → Option (Int32 × pp_M)) (σ : pp_M) (a3 : Int32) (a4 : Int32) (a5 : Int32) (a6 : Int32) : Option (Int32 × pp_M) :=
  if a6 < a5 then
    if pp_ix a6 40 then
    if pp_ix ((((40 : Int32) * a3) + a4) + a6) 160 then
    k157 (ppS σ 69 ((((40 : Int32) * a3) + a4) + a6).toNatClampNeg (σ.1 70 a6.toNatClampNeg)) a3 a4 a5 (a6 + (1 : Int32))
    else none
    else none
  else
    some ((1 : Int32), σ)
def f_X9_copy_157 : Nat → pp_M → Int32 → Int32 → Int32 → Int32 → Option (Int32 × pp_M)
  | 0 => fun _ _ _ _ _ => none
  | n + 1 => fun σ a3 a4 a5 a6 => f_X9_copy_157_B (f_X9_copy_157 n) σ a3 a4 a5 a6
def f_X9_copy_120_B (k120 : pp_M → Int32 → Int32 → Int32 → Int32 → Int32 → Int32 → Option (Int32 × pp_M)) (σ : pp_M) (a1 : Int32) (a2 : Int32) (a3 : Int32) (a4 : Int32) (a5 : Int32) (a6 : Int32) : Option (Int32 × pp_M) :=
  if a6 < a5 then
    if pp_ix ((((40 : Int32) * a1) + a2) + a6) 160 then
    if pp_ix a6 40 then
    k120 (ppS σ 70 a6.toNatClampNeg (σ.1 69 ((((40 : Int32) * a1) + a2) + a6).toNatClampNeg)) a1 a2 a3 a4 a5 (a6 + (1 : Int32))
    else none
    else none
  else
    f_X9_copy_157 100000 σ a3 a4 a5 (0 : Int32)
def f_X9_copy_120 : Nat → pp_M → Int32 → Int32 → Int32 → Int32 → Int32 → Int32 → Option (Int32 × pp_M)
  | 0 => fun _ _ _ _ _ _ _ => none
  | n + 1 => fun σ a1 a2 a3 a4 a5 a6 => f_X9_copy_120_B (f_X9_copy_120 n) σ a1 a2 a3 a4 a5 a6
def f_X9_copy_111 (σ : pp_M)  : Option (Int32 × pp_M) :=
  (f_X9_meets σ (2 : Int32)).bind fun x113 =>
  some (x113.1, x113.2)
def f_X9_copy_35 (σ : pp_M)  : Option (Int32 × pp_M) :=
  (f_X9_meets σ (1 : Int32)).bind fun x37 =>
  some (x37.1, x37.2)
def f_X9_copy (σ : pp_M) (a1 : Int32) (a2 : Int32) (a3 : Int32) (a4 : Int32) (a5 : Int32) : Option (Int32 × pp_M) :=
  (f_X9_isSheet σ a1).bind fun x1 =>
  if x1.1 = 0 then
    some ((-2 : Int32), x1.2)
  else
    (f_X9_isSheet x1.2 a3).bind fun x8 =>
    if x8.1 = 0 then
      some ((-2 : Int32), x8.2)
    else
      if pp_ix a1 4 then
      if (x8.2.1 66 a1.toNatClampNeg) = 0 then
        f_X9_copy_35 x8.2
      else
        if pp_ix a3 4 then
        if (x8.2.1 66 a3.toNatClampNeg) = 0 then
          f_X9_copy_35 x8.2
        else
          if (x8.2.1 67 a1.toNatClampNeg) = (x8.2.1 67 a3.toNatClampNeg) then
            if a2 < 0 then
              f_X9_copy_111 x8.2
            else
              if a4 < 0 then
                f_X9_copy_111 x8.2
              else
                if a5 < 0 then
                  f_X9_copy_111 x8.2
                else
                  if (((x8.2.1 68 a1.toNatClampNeg)).toInt64) < ((a2.toInt64) + (a5.toInt64)) then
                    f_X9_copy_111 x8.2
                  else
                    if (((x8.2.1 68 a3.toNatClampNeg)).toInt64) < ((a4.toInt64) + (a5.toInt64)) then
                      f_X9_copy_111 x8.2
                    else
                      f_X9_copy_120 100000 x8.2 a1 a2 a3 a4 a5 (0 : Int32)
          else
            (f_X9_meets x8.2 (4 : Int32)).bind fun x58 =>
            some (x58.1, x58.2)
        else none
      else none
/-! X9_countNow -/
def f_X9_countNow_92 (k54 : pp_M → Int32 → Int32 → Option (Int32 × pp_M)) (k63 : pp_M → Int32 → Int32 → Int32 → Option (Int32 × pp_M)) (σ : pp_M) (a3 : Int32) (a4 : Int32) (b0 : Int32) (b1 : Int32) : Option (Int32 × pp_M) :=
  k63 σ (b0 + b1) a3 (a4 + (1 : Int32))
def f_X9_countNow_63_B (k54 : pp_M → Int32 → Int32 → Option (Int32 × pp_M)) (k63 : pp_M → Int32 → Int32 → Int32 → Option (Int32 × pp_M)) (σ : pp_M) (a2 : Int32) (a3 : Int32) (a4 : Int32) : Option (Int32 × pp_M) :=
  if a4 < (18 : Int32) then
    (f_X9_chanceNow σ a3 (a4 / (3 : Int32)) (a4 - a4 / (3 : Int32) * (3 : Int32))).bind fun x81 =>
    if 0 < x81.1 then
      f_X9_countNow_92 k54 k63 x81.2 a3 a4 a2 (1 : Int32)
    else
      f_X9_countNow_92 k54 k63 x81.2 a3 a4 a2 (0 : Int32)
  else
    k54 σ a2 (a3 + (1 : Int32))
def f_X9_countNow_63 (k54 : pp_M → Int32 → Int32 → Option (Int32 × pp_M)) : Nat → pp_M → Int32 → Int32 → Int32 → Option (Int32 × pp_M)
  | 0 => fun _ _ _ _ => none
  | n + 1 => fun σ a2 a3 a4 => f_X9_countNow_63_B k54 (f_X9_countNow_63 k54 n) σ a2 a3 a4
def f_X9_countNow_54_B (k54 : pp_M → Int32 → Int32 → Option (Int32 × pp_M)) (σ : pp_M) (a2 : Int32) (a3 : Int32) : Option (Int32 × pp_M) :=
  if (7 : Int32) < a3 then
    some (a2, σ)
  else
    f_X9_countNow_63 k54 100000 σ a2 a3 (0 : Int32)
def f_X9_countNow_54 : Nat → pp_M → Int32 → Int32 → Option (Int32 × pp_M)
  | 0 => fun _ _ _ => none
  | n + 1 => fun σ a2 a3 => f_X9_countNow_54_B (f_X9_countNow_54 n) σ a2 a3
def f_X9_countNow_41 (k9 : pp_M → Int32 → Int32 → Option (Int32 × pp_M)) (σ : pp_M) (a3 : Int32) (b0 : Int32) (b1 : Int32) : Option (Int32 × pp_M) :=
  k9 σ (b0 + b1) (a3 + (1 : Int32))
def f_X9_countNow_40 (k9 : pp_M → Int32 → Int32 → Option (Int32 × pp_M)) (σ : pp_M) (a3 : Int32) (b0 : Int32) : Option (Int32 × pp_M) :=
  f_X9_countNow_41 k9 σ a3 b0 (0 : Int32)
def f_X9_countNow_9_B (k9 : pp_M → Int32 → Int32 → Option (Int32 × pp_M)) (σ : pp_M) (a2 : Int32) (a3 : Int32) : Option (Int32 × pp_M) :=
  if a3 < (64 : Int32) then
    if (a3 / (8 : Int32)) < (a3 - a3 / (8 : Int32) * (8 : Int32)) then
      if pp_ix a3 64 then
      if 0 < (σ.1 45 a3.toNatClampNeg) then
        f_X9_countNow_41 k9 σ a3 a2 (1 : Int32)
      else
        f_X9_countNow_40 k9 σ a3 a2
      else none
    else
      f_X9_countNow_40 k9 σ a3 a2
  else
    some (a2, σ)
def f_X9_countNow_9 : Nat → pp_M → Int32 → Int32 → Option (Int32 × pp_M)
  | 0 => fun _ _ _ => none
  | n + 1 => fun σ a2 a3 => f_X9_countNow_9_B (f_X9_countNow_9 n) σ a2 a3
def f_X9_countNow (σ : pp_M) (a1 : Int32) : Option (Int32 × pp_M) :=
  if a1 = (2 : Int32) then
    f_X9_countNow_9 100000 σ (0 : Int32) (0 : Int32)
  else
    f_X9_countNow_54 100000 σ (0 : Int32) (1 : Int32)
/-! X9_packWeight -/
def f_X9_packWeight_4_B (k4 : pp_M → Int32 → Int32 → Option (Int32 × pp_M)) (σ : pp_M) (a1 : Int32) (a2 : Int32) : Option (Int32 × pp_M) :=
  if a2 < (6 : Int32) then
    if pp_ix a2 6 then
    k4 σ (a1 + ((σ.1 54 a2.toNatClampNeg) * (σ.1 42 a2.toNatClampNeg))) (a2 + (1 : Int32))
    else none
  else
    some (a1, σ)
def f_X9_packWeight_4 : Nat → pp_M → Int32 → Int32 → Option (Int32 × pp_M)
  | 0 => fun _ _ _ => none
  | n + 1 => fun σ a1 a2 => f_X9_packWeight_4_B (f_X9_packWeight_4 n) σ a1 a2
def f_X9_packWeight (σ : pp_M)  : Option (Int32 × pp_M) :=
  f_X9_packWeight_4 100000 σ (0 : Int32) (0 : Int32)
/-! X9_count -/
def f_X9_count (σ : pp_M) (a1 : Int32) : Option (Int32 × pp_M) :=
  if a1 = 0 then
    some ((σ.1 40 19), σ)
  else
  if a1 = 1 then
    (f_X9_packWeight σ).bind fun x58 =>
    some (x58.1, x58.2)
  else
  if a1 = 2 then
    (f_X9_countNow σ a1).bind fun x64 =>
    some (x64.1, x64.2)
  else
  if a1 = 3 then
    (f_X9_countNow σ a1).bind fun x64 =>
    some (x64.1, x64.2)
  else
  if a1 = 4 then
    some ((σ.1 40 11), σ)
  else
  if a1 = 5 then
    some ((σ.1 40 6), σ)
  else
  if a1 = 6 then
    some ((σ.1 40 7), σ)
  else
  if a1 = 7 then
    some ((σ.1 40 8), σ)
  else
  if a1 = 8 then
    some ((σ.1 40 47), σ)
  else
    some ((-2 : Int32), σ)
/-! X9_expects -/
def f_X9_expects (σ : pp_M) (a1 : Int32) : Option (pp_M) :=
  if (σ.1 40 14) = (-1 : Int32) then
    (f_X9_byteNow σ).bind fun x9 =>
    if x9.1 = a1 then
      some (ppS x9.2 40 13 ((x9.2.1 40 13) + (1 : Int32)))
    else
      some (ppS (ppS x9.2 40 14 (x9.2.1 40 13)) 40 13 (((ppS x9.2 40 14 (x9.2.1 40 13)).1 40 13) + (1 : Int32)))
  else
    some (ppS σ 40 13 ((σ.1 40 13) + (1 : Int32)))
/-! X9_number -/
def f_X9_number_74 (σ : pp_M) (a2 : Int32) (a3 : Int32) (a4 : Int32) (a5 : Int32) : Option (Int32 × pp_M) :=
  if (σ.1 40 14) = (-1 : Int32) then
    if (σ.1 40 13) = a4 then
      some (a5, ppS σ 40 14 a4)
    else
      (f_X9_in σ a5 a2 a3).bind fun x95 =>
      if x95.1 = 0 then
        some (a5, ppS x95.2 40 14 a4)
      else
        some (a5, x95.2)
  else
    some (a5, σ)
def f_X9_number_9_B (k9 : pp_M → Int32 → Int32 → Int32 → Int32 → Int32 → Option (Int32 × pp_M)) (σ : pp_M) (a1 : Int32) (a2 : Int32) (a3 : Int32) (a4 : Int32) (a5 : Int32) : Option (Int32 × pp_M) :=
  if (σ.1 40 14) = (-1 : Int32) then
    if (σ.1 40 13) < (a4 + a1) then
      (f_X9_byteNow σ).bind fun x29 =>
      if x29.1 < (48 : Int32) then
        f_X9_number_74 x29.2 a2 a3 a4 a5
      else
        (f_X9_byteNow x29.2).bind fun x38 =>
        if (57 : Int32) < x38.1 then
          f_X9_number_74 x38.2 a2 a3 a4 a5
        else
          (f_X9_byteNow x38.2).bind fun x52 =>
          k9 (ppS x52.2 40 13 ((x52.2.1 40 13) + (1 : Int32))) a1 a2 a3 a4 ((((10 : Int32) * a5) + x52.1) - (48 : Int32))
    else
      f_X9_number_74 σ a2 a3 a4 a5
  else
    f_X9_number_74 σ a2 a3 a4 a5
def f_X9_number_9 : Nat → pp_M → Int32 → Int32 → Int32 → Int32 → Int32 → Option (Int32 × pp_M)
  | 0 => fun _ _ _ _ _ _ => none
  | n + 1 => fun σ a1 a2 a3 a4 a5 => f_X9_number_9_B (f_X9_number_9 n) σ a1 a2 a3 a4 a5
def f_X9_number (σ : pp_M) (a1 : Int32) (a2 : Int32) (a3 : Int32) : Option (Int32 × pp_M) :=
  f_X9_number_9 100000 σ a1 a2 a3 (σ.1 40 13) (0 : Int32)
/-! X9_part -/
def f_X9_part (σ : pp_M)  : Option (pp_M) :=
  (f_X9_number σ (1 : Int32) (1 : Int32) (7 : Int32)).bind fun x5 =>
  (f_X9_expects x5.2 (58 : Int32)).bind fun x12 =>
  (f_X9_number x12 (1 : Int32) (0 : Int32) (5 : Int32)).bind fun x19 =>
  (f_X9_expects x19.2 (61 : Int32)).bind fun x26 =>
  (f_X9_number x26 (2 : Int32) (0 : Int32) (16 : Int32)).bind fun x34 =>
  (f_X9_expects x34.2 (44 : Int32)).bind fun x41 =>
  (f_X9_number x41 (2 : Int32) (0 : Int32) x34.1).bind fun x48 =>
  (f_X9_expects x48.2 (44 : Int32)).bind fun x56 =>
  (f_X9_number x56 (2 : Int32) (0 : Int32) x48.1).bind fun x64 =>
  if (x64.2.1 40 14) = (-1 : Int32) then
    if pp_ix (x64.2.1 40 15) 10 then
    if pp_ix ((ppS x64.2 50 (x64.2.1 40 15).toNatClampNeg x5.1).1 40 15) 10 then
    if pp_ix ((3 : Int32) * ((ppS (ppS x64.2 50 (x64.2.1 40 15).toNatClampNeg x5.1) 51 ((ppS x64.2 50 (x64.2.1 40 15).toNatClampNeg x5.1).1 40 15).toNatClampNeg x19.1).1 40 15)) 30 then
    if pp_ix (((3 : Int32) * ((ppS (ppS (ppS x64.2 50 (x64.2.1 40 15).toNatClampNeg x5.1) 51 ((ppS x64.2 50 (x64.2.1 40 15).toNatClampNeg x5.1).1 40 15).toNatClampNeg x19.1) 52 ((3 : Int32) * ((ppS (ppS x64.2 50 (x64.2.1 40 15).toNatClampNeg x5.1) 51 ((ppS x64.2 50 (x64.2.1 40 15).toNatClampNeg x5.1).1 40 15).toNatClampNeg x19.1).1 40 15)).toNatClampNeg x34.1).1 40 15)) + (1 : Int32)) 30 then
    if pp_ix (((3 : Int32) * ((ppS (ppS (ppS (ppS x64.2 50 (x64.2.1 40 15).toNatClampNeg x5.1) 51 ((ppS x64.2 50 (x64.2.1 40 15).toNatClampNeg x5.1).1 40 15).toNatClampNeg x19.1) 52 ((3 : Int32) * ((ppS (ppS x64.2 50 (x64.2.1 40 15).toNatClampNeg x5.1) 51 ((ppS x64.2 50 (x64.2.1 40 15).toNatClampNeg x5.1).1 40 15).toNatClampNeg x19.1).1 40 15)).toNatClampNeg x34.1) 52 (((3 : Int32) * ((ppS (ppS (ppS x64.2 50 (x64.2.1 40 15).toNatClampNeg x5.1) 51 ((ppS x64.2 50 (x64.2.1 40 15).toNatClampNeg x5.1).1 40 15).toNatClampNeg x19.1) 52 ((3 : Int32) * ((ppS (ppS x64.2 50 (x64.2.1 40 15).toNatClampNeg x5.1) 51 ((ppS x64.2 50 (x64.2.1 40 15).toNatClampNeg x5.1).1 40 15).toNatClampNeg x19.1).1 40 15)).toNatClampNeg x34.1).1 40 15)) + (1 : Int32)).toNatClampNeg x48.1).1 40 15)) + (2 : Int32)) 30 then
    some (ppS (ppS (ppS (ppS (ppS (ppS x64.2 50 (x64.2.1 40 15).toNatClampNeg x5.1) 51 ((ppS x64.2 50 (x64.2.1 40 15).toNatClampNeg x5.1).1 40 15).toNatClampNeg x19.1) 52 ((3 : Int32) * ((ppS (ppS x64.2 50 (x64.2.1 40 15).toNatClampNeg x5.1) 51 ((ppS x64.2 50 (x64.2.1 40 15).toNatClampNeg x5.1).1 40 15).toNatClampNeg x19.1).1 40 15)).toNatClampNeg x34.1) 52 (((3 : Int32) * ((ppS (ppS (ppS x64.2 50 (x64.2.1 40 15).toNatClampNeg x5.1) 51 ((ppS x64.2 50 (x64.2.1 40 15).toNatClampNeg x5.1).1 40 15).toNatClampNeg x19.1) 52 ((3 : Int32) * ((ppS (ppS x64.2 50 (x64.2.1 40 15).toNatClampNeg x5.1) 51 ((ppS x64.2 50 (x64.2.1 40 15).toNatClampNeg x5.1).1 40 15).toNatClampNeg x19.1).1 40 15)).toNatClampNeg x34.1).1 40 15)) + (1 : Int32)).toNatClampNeg x48.1) 52 (((3 : Int32) * ((ppS (ppS (ppS (ppS x64.2 50 (x64.2.1 40 15).toNatClampNeg x5.1) 51 ((ppS x64.2 50 (x64.2.1 40 15).toNatClampNeg x5.1).1 40 15).toNatClampNeg x19.1) 52 ((3 : Int32) * ((ppS (ppS x64.2 50 (x64.2.1 40 15).toNatClampNeg x5.1) 51 ((ppS x64.2 50 (x64.2.1 40 15).toNatClampNeg x5.1).1 40 15).toNatClampNeg x19.1).1 40 15)).toNatClampNeg x34.1) 52 (((3 : Int32) * ((ppS (ppS (ppS x64.2 50 (x64.2.1 40 15).toNatClampNeg x5.1) 51 ((ppS x64.2 50 (x64.2.1 40 15).toNatClampNeg x5.1).1 40 15).toNatClampNeg x19.1) 52 ((3 : Int32) * ((ppS (ppS x64.2 50 (x64.2.1 40 15).toNatClampNeg x5.1) 51 ((ppS x64.2 50 (x64.2.1 40 15).toNatClampNeg x5.1).1 40 15).toNatClampNeg x19.1).1 40 15)).toNatClampNeg x34.1).1 40 15)) + (1 : Int32)).toNatClampNeg x48.1).1 40 15)) + (2 : Int32)).toNatClampNeg x64.1) 40 15 (((ppS (ppS (ppS (ppS (ppS x64.2 50 (x64.2.1 40 15).toNatClampNeg x5.1) 51 ((ppS x64.2 50 (x64.2.1 40 15).toNatClampNeg x5.1).1 40 15).toNatClampNeg x19.1) 52 ((3 : Int32) * ((ppS (ppS x64.2 50 (x64.2.1 40 15).toNatClampNeg x5.1) 51 ((ppS x64.2 50 (x64.2.1 40 15).toNatClampNeg x5.1).1 40 15).toNatClampNeg x19.1).1 40 15)).toNatClampNeg x34.1) 52 (((3 : Int32) * ((ppS (ppS (ppS x64.2 50 (x64.2.1 40 15).toNatClampNeg x5.1) 51 ((ppS x64.2 50 (x64.2.1 40 15).toNatClampNeg x5.1).1 40 15).toNatClampNeg x19.1) 52 ((3 : Int32) * ((ppS (ppS x64.2 50 (x64.2.1 40 15).toNatClampNeg x5.1) 51 ((ppS x64.2 50 (x64.2.1 40 15).toNatClampNeg x5.1).1 40 15).toNatClampNeg x19.1).1 40 15)).toNatClampNeg x34.1).1 40 15)) + (1 : Int32)).toNatClampNeg x48.1) 52 (((3 : Int32) * ((ppS (ppS (ppS (ppS x64.2 50 (x64.2.1 40 15).toNatClampNeg x5.1) 51 ((ppS x64.2 50 (x64.2.1 40 15).toNatClampNeg x5.1).1 40 15).toNatClampNeg x19.1) 52 ((3 : Int32) * ((ppS (ppS x64.2 50 (x64.2.1 40 15).toNatClampNeg x5.1) 51 ((ppS x64.2 50 (x64.2.1 40 15).toNatClampNeg x5.1).1 40 15).toNatClampNeg x19.1).1 40 15)).toNatClampNeg x34.1) 52 (((3 : Int32) * ((ppS (ppS (ppS x64.2 50 (x64.2.1 40 15).toNatClampNeg x5.1) 51 ((ppS x64.2 50 (x64.2.1 40 15).toNatClampNeg x5.1).1 40 15).toNatClampNeg x19.1) 52 ((3 : Int32) * ((ppS (ppS x64.2 50 (x64.2.1 40 15).toNatClampNeg x5.1) 51 ((ppS x64.2 50 (x64.2.1 40 15).toNatClampNeg x5.1).1 40 15).toNatClampNeg x19.1).1 40 15)).toNatClampNeg x34.1).1 40 15)) + (1 : Int32)).toNatClampNeg x48.1).1 40 15)) + (2 : Int32)).toNatClampNeg x64.1).1 40 15) + (1 : Int32)))
    else none
    else none
    else none
    else none
    else none
  else
    some x64.2
/-! X9_faultNow -/
def f_X9_faultNow_19_B (k19 : pp_M → Option (Int32 × pp_M)) (σ : pp_M)  : Option (Int32 × pp_M) :=
  if (σ.1 40 14) = (-1 : Int32) then
    if (σ.1 40 13) < (σ.1 40 11) then
      (f_X9_expects σ (59 : Int32)).bind fun x41 =>
      if (x41.1 40 14) = (-1 : Int32) then
        (f_X9_part x41).bind fun x53 =>
        k19 x53
      else
        k19 x41
    else
      some ((σ.1 40 14), σ)
  else
    some ((σ.1 40 14), σ)
def f_X9_faultNow_19 : Nat → pp_M → Option (Int32 × pp_M)
  | 0 => fun _ => none
  | n + 1 => fun σ => f_X9_faultNow_19_B (f_X9_faultNow_19 n) σ 
def f_X9_faultNow (σ : pp_M)  : Option (Int32 × pp_M) :=
  (f_X9_part (ppS (ppS (ppS σ 40 13 (0 : Int32)) 40 14 (-1 : Int32)) 40 15 (0 : Int32))).bind fun x16 =>
  f_X9_faultNow_19 100000 x16
/-! X9_gainNow -/
def f_X9_gainNow_8_B (k8 : pp_M → Int64 → Int32 → Option (Int64 × pp_M)) (σ : pp_M) (a1 : Int64) (a3 : Int32) : Option (Int64 × pp_M) :=
  if a3 < (6 : Int32) then
    if pp_ix a3 6 then
    (f_X9_gainOf σ a3 (σ.1 54 a3.toNatClampNeg)).bind fun x23 =>
    k8 x23.2 (a1 + x23.1) (a3 + (1 : Int32))
    else none
  else
    some (a1, σ)
def f_X9_gainNow_8 : Nat → pp_M → Int64 → Int32 → Option (Int64 × pp_M)
  | 0 => fun _ _ _ => none
  | n + 1 => fun σ a1 a3 => f_X9_gainNow_8_B (f_X9_gainNow_8 n) σ a1 a3
def f_X9_gainNow (σ : pp_M)  : Option (Int64 × pp_M) :=
  (f_X9_looksAtRow σ).bind fun x1 =>
  f_X9_gainNow_8 100000 x1 (0 : Int64) (0 : Int32)
/-! X9_hoursNow -/
def f_X9_hoursNow (σ : pp_M)  : Option (Int32 × pp_M) :=
  (f_X9_laysWays σ).bind fun x1 =>
  (f_X9_looksAtRow x1).bind fun x5 =>
  (f_X9_hoursFrom x5 (0 : Int32)).bind fun x10 =>
  some (x10.1, x10.2)
/-! X9_judgedNow -/
def f_X9_judgedNow (σ : pp_M)  : Option (Int32 × pp_M) :=
  (f_X9_packWeight σ).bind fun x1 =>
  if (x1.2.1 40 7) < x1.1 then
    some ((1 : Int32), x1.2)
  else
    (f_X9_hoursNow x1.2).bind fun x16 =>
    if (x16.2.1 40 6) < x16.1 then
      some ((2 : Int32), x16.2)
    else
      some ((0 : Int32), x16.2)
/-! X9_loads -/
def f_X9_loads_199 (k32 : pp_M → Int32 → Option (pp_M)) (σ : pp_M) (a1 : Int32) : Option (pp_M) :=
  k32 σ a1
def f_X9_loads_169 (k32 : pp_M → Int32 → Option (pp_M)) (σ : pp_M) (a2 : Int32) (b0 : Int32) : Option (pp_M) :=
  if b0 = 0 then
    f_X9_loads_199 k32 σ b0
  else
    if pp_ix a2 6 then
    f_X9_loads_199 k32 (ppS (ppS σ 60 a2.toNatClampNeg ((σ.1 60 a2.toNatClampNeg) + (1 : Int32))) 40 30 (((ppS σ 60 a2.toNatClampNeg ((σ.1 60 a2.toNatClampNeg) + (1 : Int32))).1 40 30) + ((ppS σ 60 a2.toNatClampNeg ((σ.1 60 a2.toNatClampNeg) + (1 : Int32))).1 42 a2.toNatClampNeg))) b0
    else none
def f_X9_loads_153 (k32 : pp_M → Int32 → Option (pp_M)) (k43 : pp_M → Int32 → Int64 → Int32 → Option (pp_M)) (σ : pp_M) (a2 : Int32) (a3 : Int64) (a5 : Int32) : Option (pp_M) :=
  k43 σ a2 a3 (a5 + (1 : Int32))
def f_X9_loads_147 (k32 : pp_M → Int32 → Option (pp_M)) (k43 : pp_M → Int32 → Int64 → Int32 → Option (pp_M)) (σ : pp_M) (a5 : Int32) (a6 : Int64) : Option (pp_M) :=
  f_X9_loads_153 k32 k43 σ a5 a6 a5
def f_X9_loads_43_B (k32 : pp_M → Int32 → Option (pp_M)) (k43 : pp_M → Int32 → Int64 → Int32 → Option (pp_M)) (σ : pp_M) (a2 : Int32) (a3 : Int64) (a5 : Int32) : Option (pp_M) :=
  if a5 < (6 : Int32) then
    if pp_ix a5 6 then
    if (σ.1 60 a5.toNatClampNeg) < (4 : Int32) then
      if (σ.1 40 7) < ((σ.1 40 30) + (σ.1 42 a5.toNatClampNeg)) then
        f_X9_loads_153 k32 k43 σ a2 a3 a5
      else
        (f_X9_gainOf σ a5 ((σ.1 60 a5.toNatClampNeg) + (1 : Int32))).bind fun x92 =>
        (f_X9_gainOf x92.2 a5 (x92.2.1 60 a5.toNatClampNeg)).bind fun x105 =>
        if (0 : Int64) < (x92.1 - x105.1) then
          if a2 = (-1 : Int32) then
            f_X9_loads_147 k32 k43 x105.2 a5 (x92.1 - x105.1)
          else
            if pp_ix a2 6 then
            if (a3 * (((x105.2.1 42 a5.toNatClampNeg)).toInt64)) < ((x92.1 - x105.1) * (((x105.2.1 42 a2.toNatClampNeg)).toInt64)) then
              f_X9_loads_147 k32 k43 x105.2 a5 (x92.1 - x105.1)
            else
              f_X9_loads_153 k32 k43 x105.2 a2 a3 a5
            else none
        else
          f_X9_loads_153 k32 k43 x105.2 a2 a3 a5
    else
      f_X9_loads_153 k32 k43 σ a2 a3 a5
    else none
  else
    if a2 = (-1 : Int32) then
      f_X9_loads_169 k32 σ a2 (0 : Int32)
    else
      f_X9_loads_169 k32 σ a2 (1 : Int32)
def f_X9_loads_43 (k32 : pp_M → Int32 → Option (pp_M)) : Nat → pp_M → Int32 → Int64 → Int32 → Option (pp_M)
  | 0 => fun _ _ _ _ => none
  | n + 1 => fun σ a2 a3 a5 => f_X9_loads_43_B k32 (f_X9_loads_43 k32 n) σ a2 a3 a5
def f_X9_loads_32_B (k32 : pp_M → Int32 → Option (pp_M)) (σ : pp_M) (a1 : Int32) : Option (pp_M) :=
  if a1 = 0 then
    some σ
  else
    f_X9_loads_43 k32 100000 σ (-1 : Int32) (0 : Int64) (0 : Int32)
def f_X9_loads_32 : Nat → pp_M → Int32 → Option (pp_M)
  | 0 => fun _ _ => none
  | n + 1 => fun σ a1 => f_X9_loads_32_B (f_X9_loads_32 n) σ a1
def f_X9_loads_11_B (k11 : pp_M → Int32 → Option (pp_M)) (σ : pp_M) (a1 : Int32) : Option (pp_M) :=
  if a1 < (6 : Int32) then
    if pp_ix a1 6 then
    k11 (ppS σ 60 a1.toNatClampNeg (0 : Int32)) (a1 + (1 : Int32))
    else none
  else
    f_X9_loads_32 100000 σ (1 : Int32)
def f_X9_loads_11 : Nat → pp_M → Int32 → Option (pp_M)
  | 0 => fun _ _ => none
  | n + 1 => fun σ a1 => f_X9_loads_11_B (f_X9_loads_11 n) σ a1
def f_X9_loads (σ : pp_M)  : Option (pp_M) :=
  (f_X9_looksAtRow σ).bind fun x1 =>
  f_X9_loads_11 100000 (ppS x1 40 30 (0 : Int32)) (0 : Int32)
/-! X9_loadNow -/
def f_X9_loadNow_70 (σ : pp_M) (a2 : Int32) (a3 : Int64) : Option (Int64 × pp_M) :=
  (f_X9_sixteen σ (σ.1 40 22)).bind fun x75 =>
  (f_X9_lowest x75.2 a3 x75.1 a2).bind fun x79 =>
  some (x79.1, x79.2)
def f_X9_loadNow_41_B (k41 : pp_M → Int32 → Int64 → Int32 → Option (Int64 × pp_M)) (σ : pp_M) (a2 : Int32) (a3 : Int64) (a5 : Int32) : Option (Int64 × pp_M) :=
  if a5 < (6 : Int32) then
    if pp_ix a5 6 then
    (f_X9_gainOf σ a5 (σ.1 60 a5.toNatClampNeg)).bind fun x59 =>
    k41 x59.2 a2 (a3 + x59.1) (a5 + (1 : Int32))
    else none
  else
    f_X9_loadNow_70 σ a2 a3
def f_X9_loadNow_41 : Nat → pp_M → Int32 → Int64 → Int32 → Option (Int64 × pp_M)
  | 0 => fun _ _ _ _ => none
  | n + 1 => fun σ a2 a3 a5 => f_X9_loadNow_41_B (f_X9_loadNow_41 n) σ a2 a3 a5
def f_X9_loadNow (σ : pp_M) (a1 : Int32) (a2 : Int32) : Option (Int64 × pp_M) :=
  if a1 = (2 : Int32) then
    (f_X9_boundNow σ a2).bind fun x7 =>
    some (x7.1, x7.2)
  else
    if a1 = 0 then
      (f_X9_looksAtRow σ).bind fun x18 =>
      (f_X9_packs x18 (-1 : Int32)).bind fun x23 =>
      f_X9_loadNow_70 x23 a2 (x23.2 40 28)
    else
      (f_X9_loads σ).bind fun x35 =>
      f_X9_loadNow_41 100000 x35 a2 (0 : Int64) (0 : Int32)
/-! X9_loadedNow -/
def f_X9_loadedNow (σ : pp_M) (a1 : Int32) : Option (Int32 × pp_M) :=
  (f_X9_loads σ).bind fun x1 =>
  if a1 = (-1 : Int32) then
    some ((x1.1 40 30), x1)
  else
    if pp_ix a1 6 then
    some ((x1.1 60 a1.toNatClampNeg), x1)
    else none
/-! X9_strapsNow -/
def f_X9_strapsNow_113 (k42 : pp_M → Int32 → Int64 → Int32 → Option (Int32 × pp_M)) (σ : pp_M) (a1 : Int32) (a2 : Int64) (a4 : Int32) : Option (Int32 × pp_M) :=
  k42 σ a1 a2 (a4 + (1 : Int32))
def f_X9_strapsNow_107 (k42 : pp_M → Int32 → Int64 → Int32 → Option (Int32 × pp_M)) (σ : pp_M) (a4 : Int32) (a5 : Int64) : Option (Int32 × pp_M) :=
  f_X9_strapsNow_113 k42 σ a4 a5 a4
def f_X9_strapsNow_42_B (k42 : pp_M → Int32 → Int64 → Int32 → Option (Int32 × pp_M)) (σ : pp_M) (a1 : Int32) (a2 : Int64) (a4 : Int32) : Option (Int32 × pp_M) :=
  if a4 < (6 : Int32) then
    if pp_ix a4 6 then
    if 0 < (σ.1 65 a4.toNatClampNeg) then
      (f_X9_bringsNow σ a4).bind fun x62 =>
      if a1 = (-1 : Int32) then
        f_X9_strapsNow_107 k42 x62.2 a4 x62.1
      else
        if pp_ix a1 6 then
        (f_X9_weightOf x62.2 a1 (x62.2.1 65 a1.toNatClampNeg)).bind fun x82 =>
        (f_X9_weightOf x82.2 a4 (x82.2.1 65 a4.toNatClampNeg)).bind fun x98 =>
        if (x62.1 * (x82.1.toInt64)) < (a2 * (x98.1.toInt64)) then
          f_X9_strapsNow_107 k42 x98.2 a4 x62.1
        else
          f_X9_strapsNow_113 k42 x98.2 a1 a2 a4
        else none
    else
      f_X9_strapsNow_113 k42 σ a1 a2 a4
    else none
  else
    some (a1, σ)
def f_X9_strapsNow_42 : Nat → pp_M → Int32 → Int64 → Int32 → Option (Int32 × pp_M)
  | 0 => fun _ _ _ _ => none
  | n + 1 => fun σ a1 a2 a4 => f_X9_strapsNow_42_B (f_X9_strapsNow_42 n) σ a1 a2 a4
def f_X9_strapsNow_11_B (k11 : pp_M → Int32 → Option (Int32 × pp_M)) (σ : pp_M) (a1 : Int32) : Option (Int32 × pp_M) :=
  if a1 < (6 : Int32) then
    if pp_ix a1 6 then
    k11 (ppS σ 65 a1.toNatClampNeg (σ.1 59 a1.toNatClampNeg)) (a1 + (1 : Int32))
    else none
  else
    f_X9_strapsNow_42 100000 σ (-1 : Int32) (0 : Int64) (0 : Int32)
def f_X9_strapsNow_11 : Nat → pp_M → Int32 → Option (Int32 × pp_M)
  | 0 => fun _ _ => none
  | n + 1 => fun σ a1 => f_X9_strapsNow_11_B (f_X9_strapsNow_11 n) σ a1
def f_X9_strapsNow (σ : pp_M)  : Option (Int32 × pp_M) :=
  (f_X9_looksAtRow σ).bind fun x1 =>
  (f_X9_packs x1 (-1 : Int32)).bind fun x6 =>
  f_X9_strapsNow_11 100000 x6 (0 : Int32)
/-! X9_thingNow -/
def f_X9_thingNow (σ : pp_M) (a1 : Int32) (a2 : Int32) : Option (Int32 × pp_M) :=
  if a2 = 0 then
    if pp_ix a1 6 then
    some ((σ.1 41 a1.toNatClampNeg), σ)
    else none
  else
    if a2 = (1 : Int32) then
      if pp_ix a1 6 then
      some ((σ.1 42 a1.toNatClampNeg), σ)
      else none
    else
      if a2 = (2 : Int32) then
        if pp_ix a1 6 then
        some ((σ.1 43 a1.toNatClampNeg), σ)
        else none
      else
        if pp_ix ((((3 : Int32) * a1) + a2) - (3 : Int32)) 18 then
        some ((σ.1 44 ((((3 : Int32) * a1) + a2) - (3 : Int32)).toNatClampNeg), σ)
        else none
/-! X9_digest -/
def f_X9_digest_184_B (k184 : pp_M → Int64 → Int32 → Option (Int64 × pp_M)) (σ : pp_M) (a1 : Int64) (a5 : Int32) : Option (Int64 × pp_M) :=
  if a5 < (3 : Int32) then
    (f_X9_loadNow σ a5 (0 : Int32)).bind fun x199 =>
    (f_X9_loadNow x199.2 a5 (1 : Int32)).bind fun x213 =>
    k184 x213.2 (((31 : Int64) * (((31 : Int64) * a1) + x199.1)) + x213.1) (a5 + (1 : Int32))
  else
    (f_X9_strapsNow σ).bind fun x230 =>
    some ((((31 : Int64) * a1) + (x230.1.toInt64)), x230.2)
def f_X9_digest_184 : Nat → pp_M → Int64 → Int32 → Option (Int64 × pp_M)
  | 0 => fun _ _ _ => none
  | n + 1 => fun σ a1 a5 => f_X9_digest_184_B (f_X9_digest_184 n) σ a1 a5
def f_X9_digest_54_B (k45 : pp_M → Int64 → Int32 → Option (Int64 × pp_M)) (k54 : pp_M → Int64 → Int32 → Int32 → Option (Int64 × pp_M)) (σ : pp_M) (a1 : Int64) (a3 : Int32) (a4 : Int32) : Option (Int64 × pp_M) :=
  if a4 < (6 : Int32) then
    (f_X9_thingNow σ a3 a4).bind fun x70 =>
    k54 x70.2 (((31 : Int64) * a1) + (x70.1.toInt64)) a3 (a4 + (1 : Int32))
  else
    (f_X9_bestNow σ a3).bind fun x89 =>
    (f_X9_loadedNow x89.2 a3).bind fun x102 =>
    k45 x102.2 (((31 : Int64) * (((31 : Int64) * a1) + (x89.1.toInt64))) + (x102.1.toInt64)) (a3 + (1 : Int32))
def f_X9_digest_54 (k45 : pp_M → Int64 → Int32 → Option (Int64 × pp_M)) : Nat → pp_M → Int64 → Int32 → Int32 → Option (Int64 × pp_M)
  | 0 => fun _ _ _ _ => none
  | n + 1 => fun σ a1 a3 a4 => f_X9_digest_54_B k45 (f_X9_digest_54 k45 n) σ a1 a3 a4
def f_X9_digest_45_B (k45 : pp_M → Int64 → Int32 → Option (Int64 × pp_M)) (σ : pp_M) (a1 : Int64) (a3 : Int32) : Option (Int64 × pp_M) :=
  if a3 < (6 : Int32) then
    f_X9_digest_54 k45 100000 σ a1 a3 (0 : Int32)
  else
    (f_X9_hoursNow σ).bind fun x120 =>
    (f_X9_judgedNow x120.2).bind fun x132 =>
    (f_X9_gainNow x132.2).bind fun x139 =>
    (f_X9_sixteen x139.2 (x139.2.1 40 19)).bind fun x153 =>
    (f_X9_lowest x153.2 x139.1 x153.1 (0 : Int32)).bind fun x157 =>
    (f_X9_sixteen x157.2 (x157.2.1 40 19)).bind fun x172 =>
    (f_X9_lowest x172.2 x139.1 x172.1 (1 : Int32)).bind fun x176 =>
    f_X9_digest_184 100000 x176.2 (((31 : Int64) * (((31 : Int64) * (((31 : Int64) * (((31 : Int64) * a1) + (x120.1.toInt64))) + (x132.1.toInt64))) + x157.1)) + x176.1) (0 : Int32)
def f_X9_digest_45 : Nat → pp_M → Int64 → Int32 → Option (Int64 × pp_M)
  | 0 => fun _ _ _ => none
  | n + 1 => fun σ a1 a3 => f_X9_digest_45_B (f_X9_digest_45 n) σ a1 a3
def f_X9_digest_6_B (k6 : pp_M → Int64 → Int32 → Option (Int64 × pp_M)) (σ : pp_M) (a1 : Int64) (a3 : Int32) : Option (Int64 × pp_M) :=
  if a3 < (8 : Int32) then
    (f_X9_count σ a3).bind fun x19 =>
    k6 x19.2 (((31 : Int64) * a1) + (x19.1.toInt64)) (a3 + (1 : Int32))
  else
    (f_X9_faultNow σ).bind fun x37 =>
    f_X9_digest_45 100000 x37.2 (((31 : Int64) * a1) + (x37.1.toInt64)) (0 : Int32)
def f_X9_digest_6 : Nat → pp_M → Int64 → Int32 → Option (Int64 × pp_M)
  | 0 => fun _ _ _ => none
  | n + 1 => fun σ a1 a3 => f_X9_digest_6_B (f_X9_digest_6 n) σ a1 a3
def f_X9_digest (σ : pp_M)  : Option (Int64 × pp_M) :=
  f_X9_digest_6 100000 σ (17 : Int64) (0 : Int32)
/-! X9_fault -/
def f_X9_fault (σ : pp_M)  : Option (Int32 × pp_M) :=
  (f_X9_faultNow σ).bind fun x1 =>
  some (x1.1, x1.2)
/-! X9_gain -/
def f_X9_gain (σ : pp_M) (a1 : Int32) : Option (Int64 × pp_M) :=
  (f_X9_in σ a1 (0 : Int32) (1 : Int32)).bind fun x3 =>
  if x3.1 = 0 then
    (f_X9_no x3.2 (-2 : Int32)).bind fun x29 =>
    some (x29.1, x29.2)
  else
    (f_X9_gainNow x3.2).bind fun x10 =>
    (f_X9_sixteen x10.2 (x10.2.1 40 19)).bind fun x17 =>
    (f_X9_lowest x17.2 x10.1 x17.1 a1).bind fun x21 =>
    some (x21.1, x21.2)
/-! X9_lacks -/
def f_X9_lacks (σ : pp_M) (a1 : Int32) (a2 : Int32) (a3 : Int32) : Option (Int32 × pp_M) :=
  if pp_ix a1 4 then
  if (σ.1 66 a1.toNatClampNeg) = 0 then
    some ((1 : Int32), σ)
  else
    if (σ.1 67 a1.toNatClampNeg) = a2 then
      (f_X9_in σ a3 (0 : Int32) ((σ.1 68 a1.toNatClampNeg) - (1 : Int32))).bind fun x37 =>
      if x37.1 = 0 then
        some ((2 : Int32), x37.2)
      else
        some ((0 : Int32), x37.2)
    else
      some ((3 : Int32), σ)
  else none
/-! X9_get -/
def f_X9_get (σ : pp_M) (a1 : Int32) (a2 : Int32) (a3 : Int32) : Option (Int32 × pp_M) :=
  (f_X9_isSheet σ a1).bind fun x1 =>
  if x1.1 = 0 then
    some ((-2147483648 : Int32), x1.2)
  else
    (f_X9_in x1.2 a2 (0 : Int32) (2 : Int32)).bind fun x10 =>
    if x10.1 = 0 then
      some ((-2147483648 : Int32), x10.2)
    else
      (f_X9_lacks x10.2 a1 a2 a3).bind fun x24 =>
      if 0 < x24.1 then
        some ((-2147483648 : Int32), ppS x24.2 40 47 x24.1)
      else
        if pp_ix (((40 : Int32) * a1) + a3) 160 then
        some ((x24.2.1 69 (((40 : Int32) * a1) + a3).toNatClampNeg), x24.2)
        else none
/-! X9_hours -/
def f_X9_hours (σ : pp_M)  : Option (Int32 × pp_M) :=
  (f_X9_hoursNow σ).bind fun x1 =>
  some (x1.1, x1.2)
/-! X9_isPlace -/
def f_X9_isPlace (σ : pp_M) (a0 : Int32) : Option (Int32 × pp_M) :=
  (f_X9_in σ a0 (0 : Int32) (7 : Int32)).bind fun x4 =>
  if pp_b x4.1 then
  some (x4.1, x4.2)
  else none
/-! X9_judged -/
def f_X9_judged (σ : pp_M)  : Option (Int32 × pp_M) :=
  (f_X9_judgedNow σ).bind fun x1 =>
  some (x1.1, x1.2)
/-! X9_keep -/
def f_X9_keep (σ : pp_M) (a1 : Int32) (a2 : Int32) (a3 : Int32) : Option (pp_M) :=
  if pp_ix a1 4 then
  if (σ.1 67 a1.toNatClampNeg) = 0 then
    if pp_ix (((40 : Int32) * a1) + a2) 160 then
    some (ppS σ 69 (((40 : Int32) * a1) + a2).toNatClampNeg ((a3).toInt8.toInt32))
    else none
  else
    if (σ.1 67 a1.toNatClampNeg) = (1 : Int32) then
      if pp_ix (((40 : Int32) * a1) + a2) 160 then
      some (ppS σ 69 (((40 : Int32) * a1) + a2).toNatClampNeg ((a3).toInt16.toInt32))
      else none
    else
      if pp_ix (((40 : Int32) * a1) + a2) 160 then
      some (ppS σ 69 (((40 : Int32) * a1) + a2).toNatClampNeg a3)
      else none
  else none
/-! X9_load -/
def f_X9_load_27 (σ : pp_M)  : Option (Int64 × pp_M) :=
  (f_X9_no σ (-2 : Int32)).bind fun x29 =>
  some (x29.1, x29.2)
def f_X9_load (σ : pp_M) (a1 : Int32) (a2 : Int32) : Option (Int64 × pp_M) :=
  (f_X9_in σ a1 (0 : Int32) (2 : Int32)).bind fun x3 =>
  if x3.1 = 0 then
    f_X9_load_27 x3.2
  else
    (f_X9_in x3.2 a2 (0 : Int32) (1 : Int32)).bind fun x12 =>
    if x12.1 = 0 then
      f_X9_load_27 x12.2
    else
      (f_X9_loadNow x12.2 a1 a2).bind fun x21 =>
      some (x21.1, x21.2)
/-! X9_loaded -/
def f_X9_loaded_12 (σ : pp_M) (a1 : Int32) : Option (Int32 × pp_M) :=
  (f_X9_loadedNow σ a1).bind fun x14 =>
  some (x14.1, x14.2)
def f_X9_loaded (σ : pp_M) (a1 : Int32) : Option (Int32 × pp_M) :=
  if a1 = (-1 : Int32) then
    f_X9_loaded_12 σ a1
  else
    (f_X9_isThing σ a1).bind fun x6 =>
    if x6.1 = 0 then
      some ((-2 : Int32), x6.2)
    else
      f_X9_loaded_12 x6.2 a1
/-! X9_lose -/
def f_X9_lose (σ : pp_M) (a1 : Int32) : Option (Int32 × pp_M) :=
  (f_X9_isSheet σ a1).bind fun x1 =>
  if x1.1 = 0 then
    some ((-2 : Int32), x1.2)
  else
    if pp_ix a1 4 then
    if (x1.2.1 66 a1.toNatClampNeg) = 0 then
      (f_X9_meets x1.2 (1 : Int32)).bind fun x21 =>
      some (x21.1, x21.2)
    else
      some (((ppS x1.2 66 a1.toNatClampNeg (0 : Int32)).1 68 a1.toNatClampNeg), ppS x1.2 66 a1.toNatClampNeg (0 : Int32))
    else none
/-! X9_onward -/
def f_X9_onward_230 (k45 : pp_M → Int32 → Int32 → Int32 → Int64 → Int32 → Option (Int32 × pp_M)) (k57 : pp_M → Int32 → Int32 → Int32 → Int64 → Int32 → Int32 → Option (Int32 × pp_M)) (σ : pp_M) (a1 : Int32) (a2 : Int32) (a3 : Int32) (a4 : Int64) (a6 : Int32) (a7 : Int32) : Option (Int32 × pp_M) :=
  k57 σ a1 a2 a3 a4 a6 (a7 + (1 : Int32))
def f_X9_onward_229 (k45 : pp_M → Int32 → Int32 → Int32 → Int64 → Int32 → Option (Int32 × pp_M)) (k57 : pp_M → Int32 → Int32 → Int32 → Int64 → Int32 → Int32 → Option (Int32 × pp_M)) (σ : pp_M) (a1 : Int32) (a2 : Int32) (a4 : Int64) (a6 : Int32) (a7 : Int32) (b0 : Int32) : Option (Int32 × pp_M) :=
  f_X9_onward_230 k45 k57 σ a1 a2 b0 a4 a6 a7
def f_X9_onward_154_B (k45 : pp_M → Int32 → Int32 → Int32 → Int64 → Int32 → Option (Int32 × pp_M)) (k57 : pp_M → Int32 → Int32 → Int32 → Int64 → Int32 → Int32 → Option (Int32 × pp_M)) (k154 : pp_M → Int32 → Int32 → Int32 → Int64 → Int32 → Int32 → Int64 → Int32 → Option (Int32 × pp_M)) (σ : pp_M) (a1 : Int32) (a2 : Int32) (a3 : Int32) (a4 : Int64) (a6 : Int32) (a7 : Int32) (a9 : Int64) (a11 : Int32) : Option (Int32 × pp_M) :=
  if a11 < (6 : Int32) then
    if pp_ix a11 6 then
    (f_X9_spot σ a11 (0 : Int32) (σ.1 54 a11.toNatClampNeg)).bind fun x177 =>
    if pp_ix x177.1 240 then
    k154 x177.2 a1 a2 a3 a4 a6 a7 (a9 + (x177.2.2 56 x177.1.toNatClampNeg)) (a11 + (1 : Int32))
    else none
    else none
  else
    (f_X9_sixteen σ ((5 : Int32) - a6)).bind fun x196 =>
    if a4 < (a9 * x196.1) then
      if a6 = 0 then
        f_X9_onward_229 k45 k57 x196.2 a1 a2 (a9 * x196.1) a6 a7 (-1 : Int32)
      else
        f_X9_onward_229 k45 k57 x196.2 a1 a2 (a9 * x196.1) a6 a7 (x196.2.1 55 0)
    else
      f_X9_onward_230 k45 k57 x196.2 a1 a2 a3 a4 a6 a7
def f_X9_onward_154 (k45 : pp_M → Int32 → Int32 → Int32 → Int64 → Int32 → Option (Int32 × pp_M)) (k57 : pp_M → Int32 → Int32 → Int32 → Int64 → Int32 → Int32 → Option (Int32 × pp_M)) : Nat → pp_M → Int32 → Int32 → Int32 → Int64 → Int32 → Int32 → Int64 → Int32 → Option (Int32 × pp_M)
  | 0 => fun _ _ _ _ _ _ _ _ _ => none
  | n + 1 => fun σ a1 a2 a3 a4 a6 a7 a9 a11 => f_X9_onward_154_B k45 k57 (f_X9_onward_154 k45 k57 n) σ a1 a2 a3 a4 a6 a7 a9 a11
def f_X9_onward_125 (k45 : pp_M → Int32 → Int32 → Int32 → Int64 → Int32 → Option (Int32 × pp_M)) (k57 : pp_M → Int32 → Int32 → Int32 → Int64 → Int32 → Int32 → Option (Int32 × pp_M)) (σ : pp_M) (a1 : Int32) (a2 : Int32) (a3 : Int32) (a4 : Int64) (a6 : Int32) (a7 : Int32) (a8 : Int32) : Option (Int32 × pp_M) :=
  if a8 = 0 then
    f_X9_onward_230 k45 k57 σ a1 a2 a3 a4 a6 a7
  else
    (f_X9_hoursFrom σ a1).bind fun x133 =>
    if (x133.2.1 40 6) < (a2 + x133.1) then
      f_X9_onward_230 k45 k57 x133.2 a1 a2 a3 a4 a6 a7
    else
      (f_X9_laysWorth x133.2).bind fun x145 =>
      f_X9_onward_154 k45 k57 100000 x145 a1 a2 a3 a4 a6 a7 (0 : Int64) (0 : Int32)
def f_X9_onward_117 (k45 : pp_M → Int32 → Int32 → Int32 → Int64 → Int32 → Option (Int32 × pp_M)) (k57 : pp_M → Int32 → Int32 → Int32 → Int64 → Int32 → Int32 → Option (Int32 × pp_M)) (k89 : pp_M → Int32 → Int32 → Int32 → Int64 → Int32 → Int32 → Int32 → Int32 → Option (Int32 × pp_M)) (σ : pp_M) (a1 : Int32) (a2 : Int32) (a3 : Int32) (a4 : Int64) (a6 : Int32) (a7 : Int32) (a9 : Int32) (b0 : Int32) : Option (Int32 × pp_M) :=
  k89 σ a1 a2 a3 a4 a6 a7 b0 (a9 + (1 : Int32))
def f_X9_onward_89_B (k45 : pp_M → Int32 → Int32 → Int32 → Int64 → Int32 → Option (Int32 × pp_M)) (k57 : pp_M → Int32 → Int32 → Int32 → Int64 → Int32 → Int32 → Option (Int32 × pp_M)) (k89 : pp_M → Int32 → Int32 → Int32 → Int64 → Int32 → Int32 → Int32 → Int32 → Option (Int32 × pp_M)) (σ : pp_M) (a1 : Int32) (a2 : Int32) (a3 : Int32) (a4 : Int64) (a6 : Int32) (a7 : Int32) (a8 : Int32) (a9 : Int32) : Option (Int32 × pp_M) :=
  if a9 < a6 then
    if a8 = 0 then
      f_X9_onward_125 k45 k57 σ a1 a2 a3 a4 a6 a7 a8
    else
      if pp_ix a9 7 then
      if (σ.1 55 a9.toNatClampNeg) = a1 then
        f_X9_onward_117 k45 k57 k89 σ a1 a2 a3 a4 a6 a7 a9 (0 : Int32)
      else
        f_X9_onward_117 k45 k57 k89 σ a1 a2 a3 a4 a6 a7 a9 (1 : Int32)
      else none
  else
    f_X9_onward_125 k45 k57 σ a1 a2 a3 a4 a6 a7 a8
def f_X9_onward_89 (k45 : pp_M → Int32 → Int32 → Int32 → Int64 → Int32 → Option (Int32 × pp_M)) (k57 : pp_M → Int32 → Int32 → Int32 → Int64 → Int32 → Int32 → Option (Int32 × pp_M)) : Nat → pp_M → Int32 → Int32 → Int32 → Int64 → Int32 → Int32 → Int32 → Int32 → Option (Int32 × pp_M)
  | 0 => fun _ _ _ _ _ _ _ _ _ => none
  | n + 1 => fun σ a1 a2 a3 a4 a6 a7 a8 a9 => f_X9_onward_89_B k45 k57 (f_X9_onward_89 k45 k57 n) σ a1 a2 a3 a4 a6 a7 a8 a9
def f_X9_onward_84 (k45 : pp_M → Int32 → Int32 → Int32 → Int64 → Int32 → Option (Int32 × pp_M)) (k57 : pp_M → Int32 → Int32 → Int32 → Int64 → Int32 → Int32 → Option (Int32 × pp_M)) (σ : pp_M) (a1 : Int32) (a2 : Int32) (a3 : Int32) (a4 : Int64) (a6 : Int32) (a7 : Int32) (b0 : Int32) : Option (Int32 × pp_M) :=
  f_X9_onward_89 k45 k57 100000 σ a1 a2 a3 a4 a6 a7 b0 (0 : Int32)
def f_X9_onward_57_B (k45 : pp_M → Int32 → Int32 → Int32 → Int64 → Int32 → Option (Int32 × pp_M)) (k57 : pp_M → Int32 → Int32 → Int32 → Int64 → Int32 → Int32 → Option (Int32 × pp_M)) (σ : pp_M) (a1 : Int32) (a2 : Int32) (a3 : Int32) (a4 : Int64) (a6 : Int32) (a7 : Int32) : Option (Int32 × pp_M) :=
  (f_X9_fives σ a6).bind fun x61 =>
  if a7 < x61.1 then
    (f_X9_looksAt x61.2 a6 a7).bind fun x72 =>
    if x72.1 = (-1 : Int32) then
      f_X9_onward_84 k45 k57 x72.2 a1 a2 a3 a4 a6 a7 (0 : Int32)
    else
      f_X9_onward_84 k45 k57 x72.2 a1 a2 a3 a4 a6 a7 (1 : Int32)
  else
    k45 x61.2 a1 a2 a3 a4 (a6 + (1 : Int32))
def f_X9_onward_57 (k45 : pp_M → Int32 → Int32 → Int32 → Int64 → Int32 → Option (Int32 × pp_M)) : Nat → pp_M → Int32 → Int32 → Int32 → Int64 → Int32 → Int32 → Option (Int32 × pp_M)
  | 0 => fun _ _ _ _ _ _ _ => none
  | n + 1 => fun σ a1 a2 a3 a4 a6 a7 => f_X9_onward_57_B k45 (f_X9_onward_57 k45 n) σ a1 a2 a3 a4 a6 a7
def f_X9_onward_45_B (k45 : pp_M → Int32 → Int32 → Int32 → Int64 → Int32 → Option (Int32 × pp_M)) (σ : pp_M) (a1 : Int32) (a2 : Int32) (a3 : Int32) (a4 : Int64) (a6 : Int32) : Option (Int32 × pp_M) :=
  if (σ.1 40 32) < a6 then
    some (a3, σ)
  else
    f_X9_onward_57 k45 100000 σ a1 a2 a3 a4 a6 (0 : Int32)
def f_X9_onward_45 : Nat → pp_M → Int32 → Int32 → Int32 → Int64 → Int32 → Option (Int32 × pp_M)
  | 0 => fun _ _ _ _ _ _ => none
  | n + 1 => fun σ a1 a2 a3 a4 a6 => f_X9_onward_45_B (f_X9_onward_45 n) σ a1 a2 a3 a4 a6
def f_X9_onward (σ : pp_M) (a1 : Int32) (a2 : Int32) : Option (Int32 × pp_M) :=
  (f_X9_isPlace σ a1).bind fun x1 =>
  if x1.1 = 0 then
    some ((-2 : Int32), x1.2)
  else
    (f_X9_in x1.2 a2 (0 : Int32) (200 : Int32)).bind fun x12 =>
    if x12.1 = 0 then
      some ((-2 : Int32), x12.2)
    else
      (f_X9_gathers x12.2).bind fun x22 =>
      if x22.1 = 0 then
        some ((-4 : Int32), x22.2)
      else
        (f_X9_laysWays x22.2).bind fun x32 =>
        f_X9_onward_45 100000 x32 a1 a2 (-1 : Int32) (-1000000000000000000 : Int64) (0 : Int32)
/-! X9_pack -/
def f_X9_pack_80_B (k80 : pp_M → Int32 → Int32 → Option (Int32 × pp_M)) (σ : pp_M) (a1 : Int32) (a2 : Int32) : Option (Int32 × pp_M) :=
  if a2 < (6 : Int32) then
    if pp_ix (((40 : Int32) * a1) + a2) 160 then
    if pp_ix a2 6 then
    k80 (ppS σ 54 a2.toNatClampNeg (σ.1 69 (((40 : Int32) * a1) + a2).toNatClampNeg)) a1 (a2 + (1 : Int32))
    else none
    else none
  else
    (f_X9_packWeight σ).bind fun x110 =>
    some (x110.1, x110.2)
def f_X9_pack_80 : Nat → pp_M → Int32 → Int32 → Option (Int32 × pp_M)
  | 0 => fun _ _ _ => none
  | n + 1 => fun σ a1 a2 => f_X9_pack_80_B (f_X9_pack_80 n) σ a1 a2
def f_X9_pack_44_B (k44 : pp_M → Int32 → Int32 → Option (Int32 × pp_M)) (σ : pp_M) (a1 : Int32) (a2 : Int32) : Option (Int32 × pp_M) :=
  if a2 < (6 : Int32) then
    if pp_ix (((40 : Int32) * a1) + a2) 160 then
    (f_X9_in σ (σ.1 69 (((40 : Int32) * a1) + a2).toNatClampNeg) (0 : Int32) (4 : Int32)).bind fun x63 =>
    if x63.1 = 0 then
      some ((-3 : Int32), x63.2)
    else
      k44 x63.2 a1 (a2 + (1 : Int32))
    else none
  else
    f_X9_pack_80 100000 σ a1 (0 : Int32)
def f_X9_pack_44 : Nat → pp_M → Int32 → Int32 → Option (Int32 × pp_M)
  | 0 => fun _ _ _ => none
  | n + 1 => fun σ a1 a2 => f_X9_pack_44_B (f_X9_pack_44 n) σ a1 a2
def f_X9_pack (σ : pp_M) (a1 : Int32) : Option (Int32 × pp_M) :=
  (f_X9_isSheet σ a1).bind fun x1 =>
  if x1.1 = 0 then
    some ((-2 : Int32), x1.2)
  else
    if pp_ix a1 4 then
    if (x1.2.1 66 a1.toNatClampNeg) = 0 then
      (f_X9_meets x1.2 (1 : Int32)).bind fun x21 =>
      some (x21.1, x21.2)
    else
      if (x1.2.1 68 a1.toNatClampNeg) < (6 : Int32) then
        (f_X9_meets x1.2 (2 : Int32)).bind fun x38 =>
        some (x38.1, x38.2)
      else
        f_X9_pack_44 100000 x1.2 a1 (0 : Int32)
    else none
/-! X9_put -/
def f_X9_put (σ : pp_M) (a1 : Int32) (a2 : Int32) (a3 : Int32) (a4 : Int32) : Option (Int32 × pp_M) :=
  (f_X9_isSheet σ a1).bind fun x1 =>
  if x1.1 = 0 then
    some ((-2 : Int32), x1.2)
  else
    (f_X9_in x1.2 a2 (0 : Int32) (2 : Int32)).bind fun x10 =>
    if x10.1 = 0 then
      some ((-2 : Int32), x10.2)
    else
      (f_X9_lacks x10.2 a1 a2 a3).bind fun x23 =>
      if 0 < x23.1 then
        (f_X9_meets x23.2 x23.1).bind fun x36 =>
        some (x36.1, x36.2)
      else
        (f_X9_keep x23.2 a1 a3 a4).bind fun x45 =>
        some ((1 : Int32), x45)
/-! X9_read -/
def f_X9_read_133_B (k34 : pp_M → Int32 → Int32 → Int32 → Option (Int32 × pp_M)) (k133 : pp_M → Int32 → Int32 → Int32 → Int32 → Int32 → Option (Int32 × pp_M)) (σ : pp_M) (a1 : Int32) (a2 : Int32) (a3 : Int32) (a4 : Int32) (a5 : Int32) : Option (Int32 × pp_M) :=
  if a5 < (3 : Int32) then
    (f_X9_place σ a2 a3).bind fun x145 =>
    if pp_ix (a4 + a5) 160 then
    if pp_ix (x145.1 + a5) 144 then
    k133 (ppS x145.2 47 (x145.1 + a5).toNatClampNeg (x145.2.1 69 (a4 + a5).toNatClampNeg)) a1 a2 a3 a4 (a5 + (1 : Int32))
    else none
    else none
  else
    k34 σ a1 a2 (a3 + (1 : Int32))
def f_X9_read_133 (k34 : pp_M → Int32 → Int32 → Int32 → Option (Int32 × pp_M)) : Nat → pp_M → Int32 → Int32 → Int32 → Int32 → Int32 → Option (Int32 × pp_M)
  | 0 => fun _ _ _ _ _ _ => none
  | n + 1 => fun σ a1 a2 a3 a4 a5 => f_X9_read_133_B k34 (f_X9_read_133 k34 n) σ a1 a2 a3 a4 a5
def f_X9_read_34_B (k34 : pp_M → Int32 → Int32 → Int32 → Option (Int32 × pp_M)) (σ : pp_M) (a1 : Int32) (a2 : Int32) (a3 : Int32) : Option (Int32 × pp_M) :=
  if a3 < (6 : Int32) then
    if pp_ix a1 4 then
    if (((3 : Int32) * a3) + (2 : Int32)) < (σ.1 68 a1.toNatClampNeg) then
      if pp_ix (((40 : Int32) * a1) + ((3 : Int32) * a3)) 160 then
      (f_X9_in σ (σ.1 69 (((40 : Int32) * a1) + ((3 : Int32) * a3)).toNatClampNeg) (0 : Int32) (16 : Int32)).bind fun x74 =>
      if x74.1 = 0 then
        some (a3, x74.2)
      else
        if pp_ix ((((40 : Int32) * a1) + ((3 : Int32) * a3)) + (1 : Int32)) 160 then
        (f_X9_in x74.2 (x74.2.1 69 ((((40 : Int32) * a1) + ((3 : Int32) * a3)) + (1 : Int32)).toNatClampNeg) (0 : Int32) (x74.2.1 69 (((40 : Int32) * a1) + ((3 : Int32) * a3)).toNatClampNeg)).bind fun x97 =>
        if x97.1 = 0 then
          some (a3, x97.2)
        else
          if pp_ix ((((40 : Int32) * a1) + ((3 : Int32) * a3)) + (2 : Int32)) 160 then
          (f_X9_in x97.2 (x97.2.1 69 ((((40 : Int32) * a1) + ((3 : Int32) * a3)) + (2 : Int32)).toNatClampNeg) (0 : Int32) (x97.2.1 69 ((((40 : Int32) * a1) + ((3 : Int32) * a3)) + (1 : Int32)).toNatClampNeg)).bind fun x122 =>
          if x122.1 = 0 then
            some (a3, x122.2)
          else
            f_X9_read_133 k34 100000 x122.2 a1 a2 a3 (((40 : Int32) * a1) + ((3 : Int32) * a3)) (0 : Int32)
          else none
        else none
      else none
    else
      some (a3, σ)
    else none
  else
    some (a3, σ)
def f_X9_read_34 : Nat → pp_M → Int32 → Int32 → Int32 → Option (Int32 × pp_M)
  | 0 => fun _ _ _ _ => none
  | n + 1 => fun σ a1 a2 a3 => f_X9_read_34_B (f_X9_read_34 n) σ a1 a2 a3
def f_X9_read (σ : pp_M) (a1 : Int32) (a2 : Int32) : Option (Int32 × pp_M) :=
  (f_X9_isSheet σ a1).bind fun x1 =>
  if x1.1 = 0 then
    some ((-2 : Int32), x1.2)
  else
    (f_X9_isFarm x1.2 a2).bind fun x8 =>
    if x8.1 = 0 then
      some ((-2 : Int32), x8.2)
    else
      if pp_ix a1 4 then
      if (x8.2.1 66 a1.toNatClampNeg) = 0 then
        (f_X9_meets x8.2 (1 : Int32)).bind fun x28 =>
        some (x28.1, x28.2)
      else
        f_X9_read_34 100000 x8.2 a1 a2 (0 : Int32)
      else none
/-! X9_road -/
def f_X9_road (σ : pp_M) (a1 : Int32) (a2 : Int32) (a3 : Int32) : Option (Int32 × pp_M) :=
  (f_X9_isPlace σ a1).bind fun x1 =>
  if x1.1 = 0 then
    some ((-2 : Int32), x1.2)
  else
    (f_X9_isPlace x1.2 a2).bind fun x8 =>
    if x8.1 = 0 then
      some ((-2 : Int32), x8.2)
    else
      if a1 = a2 then
        some ((-2 : Int32), x8.2)
      else
        (f_X9_in x8.2 a3 (0 : Int32) (60 : Int32)).bind fun x23 =>
        if x23.1 = 0 then
          some ((-2 : Int32), x23.2)
        else
          if pp_ix (((8 : Int32) * a1) + a2) 64 then
          if pp_ix (((8 : Int32) * a2) + a1) 64 then
          some ((x23.2.1 45 (((8 : Int32) * a1) + a2).toNatClampNeg), ppS (ppS x23.2 45 (((8 : Int32) * a1) + a2).toNatClampNeg a3) 45 (((8 : Int32) * a2) + a1).toNatClampNeg a3)
          else none
          else none
/-! X9_round -/
def f_X9_round (σ : pp_M) (a1 : Int32) : Option (Int32 × pp_M) :=
  if a1 < (-1 : Int32) then
    some ((-2 : Int32), σ)
  else
    (f_X9_gathers σ).bind fun x9 =>
    if x9.1 = 0 then
      some ((-4 : Int32), x9.2)
    else
      (f_X9_goesRound x9.2).bind fun x19 =>
      if a1 = (-1 : Int32) then
        some ((x19.1 40 34), x19)
      else
        if a1 < (x19.1 40 34) then
          if pp_ix a1 5 then
          some ((x19.1 63 a1.toNatClampNeg), x19)
          else none
        else
          some ((-1 : Int32), x19)
/-! X9_rounds -/
def f_X9_rounds (σ : pp_M) (a1 : Int32) : Option (Int64 × pp_M) :=
  (f_X9_in σ a1 (0 : Int32) (1 : Int32)).bind fun x3 =>
  if x3.1 = 0 then
    (f_X9_no x3.2 (-2 : Int32)).bind fun x11 =>
    some (x11.1, x11.2)
  else
    (f_X9_gathers x3.2).bind fun x16 =>
    if x16.1 = 0 then
      (f_X9_no x16.2 (-4 : Int32)).bind fun x24 =>
      some (x24.1, x24.2)
    else
      (f_X9_goesRound x16.2).bind fun x29 =>
      (f_X9_sixteen x29 (5 : Int32)).bind fun x37 =>
      (f_X9_lowest x37.2 (x29.2 40 36) x37.1 a1).bind fun x41 =>
      some (x41.1, x41.2)
/-! X9_row -/
def f_X9_row_98_B (k98 : pp_M → Int32 → Int32 → Option (Int32 × pp_M)) (σ : pp_M) (a1 : Int32) (a3 : Int32) : Option (Int32 × pp_M) :=
  if a3 < (σ.1 40 19) then
    if pp_ix (((40 : Int32) * a1) + a3) 160 then
    if pp_ix a3 7 then
    k98 (ppS σ 53 a3.toNatClampNeg (σ.1 69 (((40 : Int32) * a1) + a3).toNatClampNeg)) a1 (a3 + (1 : Int32))
    else none
    else none
  else
    some ((σ.1 40 19), σ)
def f_X9_row_98 : Nat → pp_M → Int32 → Int32 → Option (Int32 × pp_M)
  | 0 => fun _ _ _ => none
  | n + 1 => fun σ a1 a3 => f_X9_row_98_B (f_X9_row_98 n) σ a1 a3
def f_X9_row_29_B (k29 : pp_M → Int32 → Int32 → Int32 → Option (Int32 × pp_M)) (σ : pp_M) (a1 : Int32) (a2 : Int32) (a3 : Int32) : Option (Int32 × pp_M) :=
  if pp_ix a1 4 then
  if a3 < (σ.1 68 a1.toNatClampNeg) then
    if pp_ix (((40 : Int32) * a1) + a3) 160 then
    (f_X9_isFarm σ (σ.1 69 (((40 : Int32) * a1) + a3).toNatClampNeg)).bind fun x54 =>
    if x54.1 = 0 then
      some ((-3 : Int32), x54.2)
    else
      if ((a2 >>> ((σ.1 69 (((40 : Int32) * a1) + a3).toNatClampNeg) &&& 31)) &&& (1 : Int32)) = (1 : Int32) then
        some ((-3 : Int32), x54.2)
      else
        k29 x54.2 a1 (a2 ||| ((1 : Int32) <<< ((σ.1 69 (((40 : Int32) * a1) + a3).toNatClampNeg) &&& 31))) (a3 + (1 : Int32))
    else none
  else
    f_X9_row_98 100000 (ppS σ 40 19 (σ.1 68 a1.toNatClampNeg)) a1 (0 : Int32)
  else none
def f_X9_row_29 : Nat → pp_M → Int32 → Int32 → Int32 → Option (Int32 × pp_M)
  | 0 => fun _ _ _ _ => none
  | n + 1 => fun σ a1 a2 a3 => f_X9_row_29_B (f_X9_row_29 n) σ a1 a2 a3
def f_X9_row (σ : pp_M) (a1 : Int32) : Option (Int32 × pp_M) :=
  (f_X9_isSheet σ a1).bind fun x1 =>
  if x1.1 = 0 then
    some ((-2 : Int32), x1.2)
  else
    if pp_ix a1 4 then
    if (x1.2.1 66 a1.toNatClampNeg) = 0 then
      (f_X9_meets x1.2 (1 : Int32)).bind fun x21 =>
      some (x21.1, x21.2)
    else
      f_X9_row_29 100000 x1.2 a1 (0 : Int32) (0 : Int32)
    else none
/-! X9_set -/
def f_X9_set_109 (σ : pp_M) (a1 : Int32) (a2 : Int32) (a3 : Int32) (b1 : Int32) : Option (Int32 × pp_M) :=
  if a1 = (2 : Int32) then
    some (a3, ppS (ppS σ 40 7 b1) 40 8 a2)
  else
    some (a3, ppS (ppS σ 40 7 b1) 40 8 ((ppS σ 40 7 b1).1 40 8))
def f_X9_set_92 (σ : pp_M) (a1 : Int32) (a2 : Int32) (a3 : Int32) (b1 : Int32) : Option (Int32 × pp_M) :=
  if a1 = (1 : Int32) then
    f_X9_set_109 (ppS σ 40 6 b1) a1 a2 a3 a2
  else
    f_X9_set_109 (ppS σ 40 6 b1) a1 a2 a3 ((ppS σ 40 6 b1).1 40 7)
def f_X9_set_78 (σ : pp_M) (a1 : Int32) (a2 : Int32) (b0 : Int32) : Option (Int32 × pp_M) :=
  if a1 = 0 then
    f_X9_set_92 σ a1 a2 b0 a2
  else
    f_X9_set_92 σ a1 a2 b0 (σ.1 40 6)
def f_X9_set_42 (σ : pp_M) (a1 : Int32) (a2 : Int32) (b0 : Int32) (b1 : Int32) (b2 : Int32) : Option (Int32 × pp_M) :=
  (f_X9_in σ b0 b1 b2).bind fun x42 =>
  if x42.1 = 0 then
    some ((-2 : Int32), x42.2)
  else
    if a1 = 0 then
      f_X9_set_78 x42.2 a1 a2 (x42.2.1 40 6)
    else
      if a1 = (1 : Int32) then
        f_X9_set_78 x42.2 a1 a2 (x42.2.1 40 7)
      else
        f_X9_set_78 x42.2 a1 a2 (x42.2.1 40 8)
def f_X9_set_20 (σ : pp_M) (a1 : Int32) (a2 : Int32) (b0 : Int32) (b1 : Int32) : Option (Int32 × pp_M) :=
  if a1 = 0 then
    f_X9_set_42 σ a1 a2 b0 b1 (200 : Int32)
  else
    if a1 = (1 : Int32) then
      f_X9_set_42 σ a1 a2 b0 b1 (100 : Int32)
    else
      f_X9_set_42 σ a1 a2 b0 b1 (127 : Int32)
def f_X9_set (σ : pp_M) (a1 : Int32) (a2 : Int32) : Option (Int32 × pp_M) :=
  (f_X9_in σ a1 (0 : Int32) (2 : Int32)).bind fun x3 =>
  if x3.1 = 0 then
    some ((-2 : Int32), x3.2)
  else
    if a1 = (2 : Int32) then
      f_X9_set_20 x3.2 a1 a2 a2 (0 : Int32)
    else
      f_X9_set_20 x3.2 a1 a2 a2 (1 : Int32)
/-! X9_sheet -/
def f_X9_sheet_59_B (k59 : pp_M → Int32 → Int32 → Int32 → Option (Int32 × pp_M)) (σ : pp_M) (a1 : Int32) (a3 : Int32) (a4 : Int32) : Option (Int32 × pp_M) :=
  if a4 < (40 : Int32) then
    if pp_ix (((40 : Int32) * a1) + a4) 160 then
    k59 (ppS σ 69 (((40 : Int32) * a1) + a4).toNatClampNeg (0 : Int32)) a1 a3 (a4 + (1 : Int32))
    else none
  else
    some (a3, σ)
def f_X9_sheet_59 : Nat → pp_M → Int32 → Int32 → Int32 → Option (Int32 × pp_M)
  | 0 => fun _ _ _ _ => none
  | n + 1 => fun σ a1 a3 a4 => f_X9_sheet_59_B (f_X9_sheet_59 n) σ a1 a3 a4
def f_X9_sheet (σ : pp_M) (a1 : Int32) (a2 : Int32) (a3 : Int32) : Option (Int32 × pp_M) :=
  (f_X9_isSheet σ a1).bind fun x1 =>
  if x1.1 = 0 then
    some ((-2 : Int32), x1.2)
  else
    (f_X9_in x1.2 a2 (0 : Int32) (2 : Int32)).bind fun x10 =>
    if x10.1 = 0 then
      some ((-2 : Int32), x10.2)
    else
      if (40 : Int32) < a3 then
        some ((-2 : Int32), x10.2)
      else
        if a3 < 0 then
          (f_X9_meets x10.2 (5 : Int32)).bind fun x31 =>
          some (x31.1, x31.2)
        else
          if pp_ix a1 4 then
          f_X9_sheet_59 100000 (ppS (ppS (ppS x10.2 66 a1.toNatClampNeg (1 : Int32)) 67 a1.toNatClampNeg a2) 68 a1.toNatClampNeg a3) a1 a3 (0 : Int32)
          else none
/-! X9_shop -/
def f_X9_shop (σ : pp_M) (a1 : Int32) (a2 : Int32) : Option (Int32 × pp_M) :=
  (f_X9_isThing σ a1).bind fun x1 =>
  if x1.1 = 0 then
    some ((-2 : Int32), x1.2)
  else
    (f_X9_in x1.2 a2 (0 : Int32) (16 : Int32)).bind fun x11 =>
    if x11.1 = 0 then
      some ((-2 : Int32), x11.2)
    else
      if pp_ix a1 6 then
      some ((x11.2.1 48 a1.toNatClampNeg), ppS x11.2 48 a1.toNatClampNeg a2)
      else none
/-! X9_sold -/
def f_X9_sold_252 (σ : pp_M) (a5 : Int32) (b0 : Int64) : Option (Int64 × pp_M) :=
  (f_X9_sixteen σ (σ.1 40 19)).bind fun x256 =>
  (f_X9_lowest x256.2 b0 x256.1 a5).bind fun x261 =>
  some (x261.1, x261.2)
def f_X9_sold_206_B (k206 : pp_M → Int32 → Int32 → Int64 → Int32 → Option (Int64 × pp_M)) (σ : pp_M) (a4 : Int32) (a5 : Int32) (a6 : Int64) (a8 : Int32) : Option (Int64 × pp_M) :=
  if a8 < (5 : Int32) then
    if pp_ix a8 5 then
    k206 σ a4 a5 (a6 + ((a8.toInt64) * (σ.2 58 a8.toNatClampNeg))) (a8 + (1 : Int32))
    else none
  else
    if a4 = (-1 : Int32) then
      f_X9_sold_252 σ a5 a6
    else
      if pp_ix a4 5 then
      f_X9_sold_252 σ a5 (σ.2 58 a4.toNatClampNeg)
      else none
def f_X9_sold_206 : Nat → pp_M → Int32 → Int32 → Int64 → Int32 → Option (Int64 × pp_M)
  | 0 => fun _ _ _ _ _ => none
  | n + 1 => fun σ a4 a5 a6 a8 => f_X9_sold_206_B (f_X9_sold_206 n) σ a4 a5 a6 a8
def f_X9_sold_187 (k86 : pp_M → Int32 → Int32 → Int32 → Int32 → Int32 → Int32 → Option (Int64 × pp_M)) (k114 : pp_M → Int32 → Int32 → Int32 → Int32 → Int32 → Int32 → Int64 → Int32 → Option (Int64 × pp_M)) (σ : pp_M) (a1 : Int32) (a2 : Int32) (a3 : Int32) (a4 : Int32) (a5 : Int32) (a6 : Int32) (a7 : Int64) (a9 : Int32) (b1 : Int32) (b2 : Int64) : Option (Int64 × pp_M) :=
  if pp_ix b1 5 then
  k114 (ppT σ 58 b1.toNatClampNeg b2) a1 a2 a3 a4 a5 a6 a7 (a9 + (-1 : Int32))
  else none
def f_X9_sold_186 (k86 : pp_M → Int32 → Int32 → Int32 → Int32 → Int32 → Int32 → Option (Int64 × pp_M)) (k114 : pp_M → Int32 → Int32 → Int32 → Int32 → Int32 → Int32 → Int64 → Int32 → Option (Int64 × pp_M)) (σ : pp_M) (a1 : Int32) (a2 : Int32) (a3 : Int32) (a4 : Int32) (a5 : Int32) (a6 : Int32) (a7 : Int64) (a9 : Int32) (b1 : Int32) (b2 : Int64) (b3 : Int64) : Option (Int64 × pp_M) :=
  f_X9_sold_187 k86 k114 σ a1 a2 a3 a4 a5 a6 a7 a9 b1 (b2 + b3)
def f_X9_sold_137 (k86 : pp_M → Int32 → Int32 → Int32 → Int32 → Int32 → Int32 → Option (Int64 × pp_M)) (k114 : pp_M → Int32 → Int32 → Int32 → Int32 → Int32 → Int32 → Int64 → Int32 → Option (Int64 × pp_M)) (σ : pp_M) (a1 : Int32) (a2 : Int32) (a3 : Int32) (a4 : Int32) (a5 : Int32) (a6 : Int32) (a7 : Int64) (a9 : Int32) (b0 : Int64) : Option (Int64 × pp_M) :=
  if a2 < a9 then
    f_X9_sold_187 k86 k114 σ a1 a2 a3 a4 a5 a6 a7 a9 a9 (0 : Int64)
  else
    if pp_ix a9 5 then
    if 0 < a9 then
      if pp_ix (a9 - (1 : Int32)) 5 then
      f_X9_sold_186 k86 k114 σ a1 a2 a3 a4 a5 a6 a7 a9 a9 ((σ.2 58 a9.toNatClampNeg) * b0) ((σ.2 58 (a9 - (1 : Int32)).toNatClampNeg) * a7)
      else none
    else
      f_X9_sold_186 k86 k114 σ a1 a2 a3 a4 a5 a6 a7 a9 a9 ((σ.2 58 a9.toNatClampNeg) * b0) (0 : Int64)
    else none
def f_X9_sold_114_B (k86 : pp_M → Int32 → Int32 → Int32 → Int32 → Int32 → Int32 → Option (Int64 × pp_M)) (k114 : pp_M → Int32 → Int32 → Int32 → Int32 → Int32 → Int32 → Int64 → Int32 → Option (Int64 × pp_M)) (σ : pp_M) (a1 : Int32) (a2 : Int32) (a3 : Int32) (a4 : Int32) (a5 : Int32) (a6 : Int32) (a7 : Int64) (a9 : Int32) : Option (Int64 × pp_M) :=
  if a9 < 0 then
    k86 σ a1 a2 a3 a4 a5 (a6 + (1 : Int32))
  else
    if a9 = a2 then
      f_X9_sold_137 k86 k114 σ a1 a2 a3 a4 a5 a6 a7 a9 (16 : Int64)
    else
      f_X9_sold_137 k86 k114 σ a1 a2 a3 a4 a5 a6 a7 a9 ((16 : Int64) - a7)
def f_X9_sold_114 (k86 : pp_M → Int32 → Int32 → Int32 → Int32 → Int32 → Int32 → Option (Int64 × pp_M)) : Nat → pp_M → Int32 → Int32 → Int32 → Int32 → Int32 → Int32 → Int64 → Int32 → Option (Int64 × pp_M)
  | 0 => fun _ _ _ _ _ _ _ _ _ => none
  | n + 1 => fun σ a1 a2 a3 a4 a5 a6 a7 a9 => f_X9_sold_114_B k86 (f_X9_sold_114 k86 n) σ a1 a2 a3 a4 a5 a6 a7 a9
def f_X9_sold_86_B (k86 : pp_M → Int32 → Int32 → Int32 → Int32 → Int32 → Int32 → Option (Int64 × pp_M)) (σ : pp_M) (a1 : Int32) (a2 : Int32) (a3 : Int32) (a4 : Int32) (a5 : Int32) (a6 : Int32) : Option (Int64 × pp_M) :=
  if a6 < (σ.1 40 19) then
    if pp_ix a6 7 then
    (f_X9_chanceNow σ (σ.1 53 a6.toNatClampNeg) a1 a3).bind fun x105 =>
    f_X9_sold_114 k86 100000 x105.2 a1 a2 a3 a4 a5 a6 (x105.1.toInt64) (4 : Int32)
    else none
  else
    f_X9_sold_206 100000 σ a4 a5 (0 : Int64) (1 : Int32)
def f_X9_sold_86 : Nat → pp_M → Int32 → Int32 → Int32 → Int32 → Int32 → Int32 → Option (Int64 × pp_M)
  | 0 => fun _ _ _ _ _ _ _ => none
  | n + 1 => fun σ a1 a2 a3 a4 a5 a6 => f_X9_sold_86_B (f_X9_sold_86 n) σ a1 a2 a3 a4 a5 a6
def f_X9_sold_76 (k54 : pp_M → Int32 → Int32 → Int32 → Int32 → Int32 → Int32 → Option (Int64 × pp_M)) (σ : pp_M) (a1 : Int32) (a2 : Int32) (a3 : Int32) (a4 : Int32) (a5 : Int32) (a6 : Int32) (b1 : Int32) (b2 : Int64) : Option (Int64 × pp_M) :=
  if pp_ix b1 5 then
  k54 (ppT σ 58 b1.toNatClampNeg b2) a1 a2 a3 a4 a5 (a6 + (1 : Int32))
  else none
def f_X9_sold_54_B (k54 : pp_M → Int32 → Int32 → Int32 → Int32 → Int32 → Int32 → Option (Int64 × pp_M)) (σ : pp_M) (a1 : Int32) (a2 : Int32) (a3 : Int32) (a4 : Int32) (a5 : Int32) (a6 : Int32) : Option (Int64 × pp_M) :=
  if a6 < (5 : Int32) then
    if a6 = 0 then
      f_X9_sold_76 k54 σ a1 a2 a3 a4 a5 a6 a6 (1 : Int64)
    else
      f_X9_sold_76 k54 σ a1 a2 a3 a4 a5 a6 a6 (0 : Int64)
  else
    f_X9_sold_86 100000 σ a1 a2 a3 a4 a5 (0 : Int32)
def f_X9_sold_54 : Nat → pp_M → Int32 → Int32 → Int32 → Int32 → Int32 → Int32 → Option (Int64 × pp_M)
  | 0 => fun _ _ _ _ _ _ _ => none
  | n + 1 => fun σ a1 a2 a3 a4 a5 a6 => f_X9_sold_54_B (f_X9_sold_54 n) σ a1 a2 a3 a4 a5 a6
def f_X9_sold_45 (σ : pp_M)  : Option (Int64 × pp_M) :=
  (f_X9_no σ (-2 : Int32)).bind fun x47 =>
  some (x47.1, x47.2)
def f_X9_sold (σ : pp_M) (a1 : Int32) (a2 : Int32) (a3 : Int32) (a4 : Int32) (a5 : Int32) : Option (Int64 × pp_M) :=
  (f_X9_isThing σ a1).bind fun x1 =>
  if x1.1 = 0 then
    f_X9_sold_45 x1.2
  else
    (f_X9_in x1.2 a2 (0 : Int32) (4 : Int32)).bind fun x10 =>
    if x10.1 = 0 then
      f_X9_sold_45 x10.2
    else
      (f_X9_in x10.2 a3 (0 : Int32) (2 : Int32)).bind fun x19 =>
      if x19.1 = 0 then
        f_X9_sold_45 x19.2
      else
        (f_X9_in x19.2 a4 (-1 : Int32) (4 : Int32)).bind fun x29 =>
        if x29.1 = 0 then
          f_X9_sold_45 x29.2
        else
          (f_X9_in x29.2 a5 (0 : Int32) (1 : Int32)).bind fun x39 =>
          if x39.1 = 0 then
            f_X9_sold_45 x39.2
          else
            f_X9_sold_54 100000 x39.2 a1 a2 a3 a4 a5 (0 : Int32)
/-! X9_straps -/
def f_X9_straps (σ : pp_M)  : Option (Int32 × pp_M) :=
  (f_X9_strapsNow σ).bind fun x1 =>
  some (x1.1, x1.2)
/-! X9_thing -/
def f_X9_thing_173 (σ : pp_M) (a1 : Int32) (a2 : Int32) (a3 : Int32) (a6 : Int32) (b1 : Int32) (b2 : Int32) : Option (Int32 × pp_M) :=
  if pp_ix b1 6 then
  if (2 : Int32) < a2 then
    if pp_ix ((((3 : Int32) * a1) + a2) - (3 : Int32)) 18 then
    some (a6, ppS (ppS σ 43 b1.toNatClampNeg b2) 44 ((((3 : Int32) * a1) + a2) - (3 : Int32)).toNatClampNeg a3)
    else none
  else
    some (a6, ppS σ 43 b1.toNatClampNeg b2)
  else none
def f_X9_thing_152 (σ : pp_M) (a1 : Int32) (a2 : Int32) (a3 : Int32) (a6 : Int32) (b1 : Int32) (b2 : Int32) : Option (Int32 × pp_M) :=
  if pp_ix b1 6 then
  if a2 = (2 : Int32) then
    f_X9_thing_173 (ppS σ 42 b1.toNatClampNeg b2) a1 a2 a3 a6 a1 a3
  else
    if pp_ix a1 6 then
    f_X9_thing_173 (ppS σ 42 b1.toNatClampNeg b2) a1 a2 a3 a6 a1 ((ppS σ 42 b1.toNatClampNeg b2).1 43 a1.toNatClampNeg)
    else none
  else none
def f_X9_thing_131 (σ : pp_M) (a1 : Int32) (a2 : Int32) (a3 : Int32) (a6 : Int32) (b1 : Int32) (b2 : Int32) : Option (Int32 × pp_M) :=
  if pp_ix b1 6 then
  if a2 = (1 : Int32) then
    f_X9_thing_152 (ppS σ 41 b1.toNatClampNeg b2) a1 a2 a3 a6 a1 a3
  else
    if pp_ix a1 6 then
    f_X9_thing_152 (ppS σ 41 b1.toNatClampNeg b2) a1 a2 a3 a6 a1 ((ppS σ 41 b1.toNatClampNeg b2).1 42 a1.toNatClampNeg)
    else none
  else none
def f_X9_thing_88 (σ : pp_M) (a1 : Int32) (a2 : Int32) (a3 : Int32) (a4 : Int32) (b0 : Int32) : Option (Int32 × pp_M) :=
  (f_X9_in σ a3 a4 b0).bind fun x95 =>
  if x95.1 = 0 then
    some ((-2 : Int32), x95.2)
  else
    (f_X9_thingNow x95.2 a1 a2).bind fun x107 =>
    if a2 = 0 then
      f_X9_thing_131 x107.2 a1 a2 a3 x107.1 a1 a3
    else
      if pp_ix a1 6 then
      f_X9_thing_131 x107.2 a1 a2 a3 x107.1 a1 (x107.2.1 41 a1.toNatClampNeg)
      else none
def f_X9_thing_86 (σ : pp_M) (a1 : Int32) (a2 : Int32) (a3 : Int32) (a4 : Int32) : Option (Int32 × pp_M) :=
  f_X9_thing_88 σ a1 a2 a3 a4 (99 : Int32)
def f_X9_thing_49 (σ : pp_M) (a1 : Int32) (a2 : Int32) (a3 : Int32) (b0 : Int32) : Option (Int32 × pp_M) :=
  if a2 = (1 : Int32) then
    f_X9_thing_88 σ a1 a2 a3 b0 (20 : Int32)
  else
    if (2 : Int32) < a2 then
      if a2 < (5 : Int32) then
        if pp_ix ((((3 : Int32) * a1) + a2) - (2 : Int32)) 18 then
        f_X9_thing_88 σ a1 a2 a3 b0 (σ.1 44 ((((3 : Int32) * a1) + a2) - (2 : Int32)).toNatClampNeg)
        else none
      else
        f_X9_thing_86 σ a1 a2 a3 b0
    else
      f_X9_thing_86 σ a1 a2 a3 b0
def f_X9_thing (σ : pp_M) (a1 : Int32) (a2 : Int32) (a3 : Int32) : Option (Int32 × pp_M) :=
  (f_X9_isThing σ a1).bind fun x1 =>
  if x1.1 = 0 then
    some ((-2 : Int32), x1.2)
  else
    (f_X9_in x1.2 a2 (0 : Int32) (5 : Int32)).bind fun x10 =>
    if x10.1 = 0 then
      some ((-2 : Int32), x10.2)
    else
      if a2 = (1 : Int32) then
        f_X9_thing_49 x10.2 a1 a2 a3 (1 : Int32)
      else
        if (3 : Int32) < a2 then
          if pp_ix ((((3 : Int32) * a1) + a2) - (4 : Int32)) 18 then
          f_X9_thing_49 x10.2 a1 a2 a3 (x10.2.1 44 ((((3 : Int32) * a1) + a2) - (4 : Int32)).toNatClampNeg)
          else none
        else
          f_X9_thing_49 x10.2 a1 a2 a3 (0 : Int32)
/-! X9_trust -/
def f_X9_trust (σ : pp_M) (a1 : Int32) (a2 : Int32) (a3 : Int32) (a4 : Int32) (a5 : Int32) : Option (Int32 × pp_M) :=
  (f_X9_isThing σ a1).bind fun x1 =>
  if x1.1 = 0 then
    some ((-2 : Int32), x1.2)
  else
    (f_X9_in x1.2 a2 (0 : Int32) ((x1.2.1 40 19) - (1 : Int32))).bind fun x15 =>
    if x15.1 = 0 then
      some ((-2 : Int32), x15.2)
    else
      (f_X9_in x15.2 a3 (1 : Int32) (4 : Int32)).bind fun x24 =>
      if x24.1 = 0 then
        some ((-2 : Int32), x24.2)
      else
        (f_X9_in x24.2 a4 (0 : Int32) (2 : Int32)).bind fun x34 =>
        if x34.1 = 0 then
          some ((-2 : Int32), x34.2)
        else
          (f_X9_in x34.2 a5 (0 : Int32) (16 : Int32)).bind fun x45 =>
          if x45.1 = 0 then
            some ((-2 : Int32), x45.2)
          else
            (f_X9_looksAtRow x45.2).bind fun x55 =>
            if pp_ix (((3 : Int32) * a1) + a4) 18 then
            (f_X9_sixteen x55 (((x55.1 40 19) - (1 : Int32)) - a2)).bind fun x81 =>
            (f_X9_spot x81.2 a1 (a2 + (1 : Int32)) (a3 - (1 : Int32))).bind fun x100 =>
            if pp_ix x100.1 240 then
            (f_X9_spot x100.2 a1 a2 a3).bind fun x117 =>
            if pp_ix x117.1 240 then
            if (x117.2.2 56 x117.1.toNatClampNeg) < (((a5.toInt64) * ((((x55.1 44 (((3 : Int32) * a1) + a4).toNatClampNeg)).toInt64) * x81.1)) + ((16 : Int64) * (x100.2.2 56 x100.1.toNatClampNeg))) then
              some ((1 : Int32), x117.2)
            else
              some ((0 : Int32), x117.2)
            else none
            else none
            else none
/-! X9_two -/
def f_X9_two_82 (k47 : pp_M → Int32 → Int32 → Int32 → Option (Int32 × pp_M)) (σ : pp_M) (a2 : Int32) (a4 : Int32) (b0 : Int32) (b1 : Int32) : Option (Int32 × pp_M) :=
  k47 σ a2 (b0 ||| b1) (a4 + (1 : Int32))
def f_X9_two_47_B (k47 : pp_M → Int32 → Int32 → Int32 → Option (Int32 × pp_M)) (σ : pp_M) (a2 : Int32) (a3 : Int32) (a4 : Int32) : Option (Int32 × pp_M) :=
  if a4 < (σ.1 40 32) then
    if ((a2 >>> (a4 &&& 31)) &&& (1 : Int32)) = (1 : Int32) then
      if pp_ix a4 7 then
      f_X9_two_82 k47 σ a2 a4 a3 ((1 : Int32) <<< (((σ.1 61 a4.toNatClampNeg) - (1 : Int32)) &&& 31))
      else none
    else
      f_X9_two_82 k47 σ a2 a4 a3 (0 : Int32)
  else
    some (a3, σ)
def f_X9_two_47 : Nat → pp_M → Int32 → Int32 → Int32 → Option (Int32 × pp_M)
  | 0 => fun _ _ _ _ => none
  | n + 1 => fun σ a2 a3 a4 => f_X9_two_47_B (f_X9_two_47 n) σ a2 a3 a4
def f_X9_two_41 (σ : pp_M) (b0 : Int32) : Option (Int32 × pp_M) :=
  f_X9_two_47 100000 σ b0 (0 : Int32) (0 : Int32)
def f_X9_two (σ : pp_M) (a1 : Int32) : Option (Int32 × pp_M) :=
  (f_X9_in σ a1 (0 : Int32) (1 : Int32)).bind fun x3 =>
  if x3.1 = 0 then
    some ((-2 : Int32), x3.2)
  else
    (f_X9_gathers x3.2).bind fun x13 =>
    if x13.1 = 0 then
      some ((-4 : Int32), x13.2)
    else
      (f_X9_parted x13.2).bind fun x23 =>
      if a1 = 0 then
        f_X9_two_41 x23 (x23.1 40 38)
      else
        f_X9_two_41 x23 (x23.1 40 39)
/-! X9_type -/
def f_X9_type (σ : pp_M) (a1 : Int32) : Option (Int32 × pp_M) :=
  (f_X9_in σ a1 (0 : Int32) (255 : Int32)).bind fun x5 =>
  if x5.1 = 0 then
    some ((-2 : Int32), x5.2)
  else
    if (x5.2.1 40 11) = (40 : Int32) then
      some ((-4 : Int32), x5.2)
    else
      if pp_ix (x5.2.1 40 11) 40 then
      some (((ppS (ppS x5.2 49 (x5.2.1 40 11).toNatClampNeg a1) 40 11 (((ppS x5.2 49 (x5.2.1 40 11).toNatClampNeg a1).1 40 11) + (1 : Int32))).1 40 11), ppS (ppS x5.2 49 (x5.2.1 40 11).toNatClampNeg a1) 40 11 (((ppS x5.2 49 (x5.2.1 40 11).toNatClampNeg a1).1 40 11) + (1 : Int32)))
      else none
/-! X9_value -/
def f_X9_value_38 (σ : pp_M)  : Option (Int64 × pp_M) :=
  (f_X9_no σ (-2 : Int32)).bind fun x40 =>
  some (x40.1, x40.2)
def f_X9_value (σ : pp_M) (a1 : Int32) (a2 : Int32) (a3 : Int32) (a4 : Int32) : Option (Int64 × pp_M) :=
  (f_X9_isThing σ a1).bind fun x1 =>
  if x1.1 = 0 then
    f_X9_value_38 x1.2
  else
    (f_X9_in x1.2 a2 (0 : Int32) (x1.2.1 40 19)).bind fun x13 =>
    if x13.1 = 0 then
      f_X9_value_38 x13.2
    else
      (f_X9_in x13.2 a3 (0 : Int32) (4 : Int32)).bind fun x22 =>
      if x22.1 = 0 then
        f_X9_value_38 x22.2
      else
        (f_X9_in x22.2 a4 (0 : Int32) (1 : Int32)).bind fun x32 =>
        if x32.1 = 0 then
          f_X9_value_38 x32.2
        else
          (f_X9_looksAtRow x32.2).bind fun x45 =>
          (f_X9_spot x45 a1 a2 a3).bind fun x55 =>
          if pp_ix x55.1 240 then
          (f_X9_sixteen x55.2 ((x55.2.1 40 19) - a2)).bind fun x65 =>
          (f_X9_lowest x65.2 (x55.2.2 56 x55.1.toNatClampNeg) x65.1 a4).bind fun x70 =>
          some (x70.1, x70.2)
          else none
/-! X9_wants -/
def f_X9_wants_23_B (k13 : pp_M → Int32 → Option (Int32 × pp_M)) (k23 : pp_M → Int32 → Int32 → Option (Int32 × pp_M)) (σ : pp_M) (a1 : Int32) (a2 : Int32) : Option (Int32 × pp_M) :=
  if a2 < (3 : Int32) then
    if pp_ix a1 10 then
    (f_X9_place σ (σ.1 50 a1.toNatClampNeg) (σ.1 51 a1.toNatClampNeg)).bind fun x44 =>
    if pp_ix (((3 : Int32) * a1) + a2) 30 then
    if pp_ix (x44.1 + a2) 144 then
    k23 (ppS x44.2 47 (x44.1 + a2).toNatClampNeg (x44.2.1 52 (((3 : Int32) * a1) + a2).toNatClampNeg)) a1 (a2 + (1 : Int32))
    else none
    else none
    else none
  else
    k13 σ (a1 + (1 : Int32))
def f_X9_wants_23 (k13 : pp_M → Int32 → Option (Int32 × pp_M)) : Nat → pp_M → Int32 → Int32 → Option (Int32 × pp_M)
  | 0 => fun _ _ _ => none
  | n + 1 => fun σ a1 a2 => f_X9_wants_23_B k13 (f_X9_wants_23 k13 n) σ a1 a2
def f_X9_wants_13_B (k13 : pp_M → Int32 → Option (Int32 × pp_M)) (σ : pp_M) (a1 : Int32) : Option (Int32 × pp_M) :=
  if a1 < (σ.1 40 15) then
    f_X9_wants_23 k13 100000 σ a1 (0 : Int32)
  else
    some (((ppS σ 40 11 (0 : Int32)).1 40 15), ppS σ 40 11 (0 : Int32))
def f_X9_wants_13 : Nat → pp_M → Int32 → Option (Int32 × pp_M)
  | 0 => fun _ _ => none
  | n + 1 => fun σ a1 => f_X9_wants_13_B (f_X9_wants_13 n) σ a1
def f_X9_wants (σ : pp_M)  : Option (Int32 × pp_M) :=
  (f_X9_faultNow σ).bind fun x1 =>
  if x1.1 = (-1 : Int32) then
    f_X9_wants_13 100000 x1.2 (0 : Int32)
  else
    some ((-3 : Int32), x1.2)
/-! X9_way -/
def f_X9_way (σ : pp_M) (a1 : Int32) (a2 : Int32) : Option (Int32 × pp_M) :=
  (f_X9_isPlace σ a1).bind fun x1 =>
  if x1.1 = 0 then
    some ((-2 : Int32), x1.2)
  else
    (f_X9_isPlace x1.2 a2).bind fun x8 =>
    if x8.1 = 0 then
      some ((-2 : Int32), x8.2)
    else
      (f_X9_laysWays x8.2).bind fun x18 =>
      if pp_ix (((8 : Int32) * a1) + a2) 64 then
      some ((x18.1 46 (((8 : Int32) * a1) + a2).toNatClampNeg), x18)
      else none
/-! X9_wipe -/
def f_X9_wipe (σ : pp_M)  : Option (Int32 × pp_M) :=
  some ((σ.1 40 11), ppS σ 40 11 (0 : Int32))
/-! X9_write -/
def f_X9_write_36_B (k36 : pp_M → Int32 → Int32 → Option (Int32 × pp_M)) (σ : pp_M) (a1 : Int32) (a2 : Int32) : Option (Int32 × pp_M) :=
  if a2 < (6 : Int32) then
    if pp_ix a1 4 then
    if a2 < (σ.1 68 a1.toNatClampNeg) then
      if pp_ix a2 6 then
      (f_X9_keep σ a1 a2 (σ.1 59 a2.toNatClampNeg)).bind fun x61 =>
      k36 x61 a1 (a2 + (1 : Int32))
      else none
    else
      some (a2, σ)
    else none
  else
    some (a2, σ)
def f_X9_write_36 : Nat → pp_M → Int32 → Int32 → Option (Int32 × pp_M)
  | 0 => fun _ _ _ => none
  | n + 1 => fun σ a1 a2 => f_X9_write_36_B (f_X9_write_36 n) σ a1 a2
def f_X9_write (σ : pp_M) (a1 : Int32) : Option (Int32 × pp_M) :=
  (f_X9_isSheet σ a1).bind fun x1 =>
  if x1.1 = 0 then
    some ((-2 : Int32), x1.2)
  else
    if pp_ix a1 4 then
    if (x1.2.1 66 a1.toNatClampNeg) = 0 then
      (f_X9_meets x1.2 (1 : Int32)).bind fun x21 =>
      some (x21.1, x21.2)
    else
      (f_X9_looksAtRow x1.2).bind fun x26 =>
      (f_X9_packs x26 (-1 : Int32)).bind fun x31 =>
      f_X9_write_36 100000 x31 a1 (0 : Int32)
    else none
/-! X1_init -/
def f_X1_init_44_B (k18 : pp_M → Int32 → Option (pp_M)) (k44 : pp_M → Int32 → Int32 → Option (pp_M)) (σ : pp_M) (a1 : Int32) (a2 : Int32) : Option (pp_M) :=
  if a2 < (3 : Int32) then
    if pp_ix a1 6 then
    if pp_ix ((3 : Int32) + a2) 6 then
    k44 (ppS σ 3 ((a1.toNatClampNeg * 6) + ((3 : Int32) + a2).toNatClampNeg) ((2 : Int32) + a2)) a1 (a2 + (1 : Int32))
    else none
    else none
  else
    k18 σ (a1 + (1 : Int32))
def f_X1_init_44 (k18 : pp_M → Int32 → Option (pp_M)) : Nat → pp_M → Int32 → Int32 → Option (pp_M)
  | 0 => fun _ _ _ => none
  | n + 1 => fun σ a1 a2 => f_X1_init_44_B k18 (f_X1_init_44 k18 n) σ a1 a2
def f_X1_init_18_B (k18 : pp_M → Int32 → Option (pp_M)) (σ : pp_M) (a1 : Int32) : Option (pp_M) :=
  if a1 < (6 : Int32) then
    if pp_ix a1 6 then
    f_X1_init_44 k18 100000 (ppS (ppS σ 3 ((a1.toNatClampNeg * 6) + 0) (1 : Int32)) 3 ((a1.toNatClampNeg * 6) + 1) (1 : Int32)) a1 (0 : Int32)
    else none
  else
    some σ
def f_X1_init_18 : Nat → pp_M → Int32 → Option (pp_M)
  | 0 => fun _ _ => none
  | n + 1 => fun σ a1 => f_X1_init_18_B (f_X1_init_18 n) σ a1
def f_X1_init (σ : pp_M)  : Option (pp_M) :=
  f_X1_init_18 100000 σ (0 : Int32)
/-! X2_init -/
def f_X2_init (σ : pp_M)  : Option (pp_M) :=
  (f_X2_findWays σ).bind fun x29 =>
  some x29
/-! X4_init -/
def f_X4_init (σ : pp_M)  : Option (pp_M) :=
  some σ
/-! X3_init -/
def f_X3_init (σ : pp_M)  : Option (pp_M) :=
  some (ppS (ppS (ppS (ppS σ 13 2 (0 : Int32)) 13 3 (0 : Int32)) 13 4 (0 : Int32)) 13 5 (0 : Int32))
/-! X7_init -/
def f_X7_init_36_B (k36 : pp_M → Int32 → Option (pp_M)) (σ : pp_M) (a1 : Int32) : Option (pp_M) :=
  if a1 < (4 : Int32) then
    if pp_ix a1 4 then
    k36 (ppS σ 20 a1.toNatClampNeg (-1 : Int32)) (a1 + (1 : Int32))
    else none
  else
    some σ
def f_X7_init_36 : Nat → pp_M → Int32 → Option (pp_M)
  | 0 => fun _ _ => none
  | n + 1 => fun σ a1 => f_X7_init_36_B (f_X7_init_36 n) σ a1
def f_X7_init (σ : pp_M)  : Option (pp_M) :=
  f_X7_init_36 100000 (ppS σ 16 3 (0 : Int32)) (0 : Int32)
/-! X0_init -/
def f_X0_init (σ : pp_M)  : Option (pp_M) :=
  some σ
/-! X5_init -/
def f_X5_init (σ : pp_M)  : Option (pp_M) :=
  some σ
/-! X6_init -/
def f_X6_init (σ : pp_M)  : Option (pp_M) :=
  some σ
/-! X8_init -/
def f_X8_init (σ : pp_M)  : Option (pp_M) :=
  some (ppS (ppS (ppS (ppS σ 0 10 (0 : Int32)) 0 11 (60 : Int32)) 0 12 (20 : Int32)) 0 13 (127 : Int32))
/-! X9_init -/
def f_X9_init_263_B (k263 : pp_M → Int32 → Option (pp_M)) (σ : pp_M) (a1 : Int32) : Option (pp_M) :=
  if a1 < (6 : Int32) then
    if pp_ix a1 6 then
    if pp_ix ((3 : Int32) * a1) 18 then
    if pp_ix (((3 : Int32) * a1) + (1 : Int32)) 18 then
    if pp_ix (((3 : Int32) * a1) + (2 : Int32)) 18 then
    k263 (ppS (ppS (ppS (ppS (ppS σ 41 a1.toNatClampNeg (1 : Int32)) 42 a1.toNatClampNeg (1 : Int32)) 44 ((3 : Int32) * a1).toNatClampNeg (2 : Int32)) 44 (((3 : Int32) * a1) + (1 : Int32)).toNatClampNeg (3 : Int32)) 44 (((3 : Int32) * a1) + (2 : Int32)).toNatClampNeg (4 : Int32)) (a1 + (1 : Int32))
    else none
    else none
    else none
    else none
  else
    some σ
def f_X9_init_263 : Nat → pp_M → Int32 → Option (pp_M)
  | 0 => fun _ _ => none
  | n + 1 => fun σ a1 => f_X9_init_263_B (f_X9_init_263 n) σ a1
def f_X9_init (σ : pp_M)  : Option (pp_M) :=
  f_X9_init_263 100000 σ (0 : Int32)
