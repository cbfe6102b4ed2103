/-! what each method of the class and of the reference does, as functions of numbered cells -/
noncomputable def f8_set (k n : Nat) (x1 : Int32) (x2 : Int32) (σ : HS) : Option (HS) :=
  if (x1 : Int32) < 0 then
    some σ
  else
    if (nI n : Int32) ≤ x1 then
      some σ
    else
      if (x1 : Int32) < 0 ∨ n ≤ (x1 : Int32).toNatClampNeg then none else
      some (uI σ k (x1 : Int32).toNatClampNeg x2)
noncomputable def f0_takeFirstOrder_2_b (g : Nat) (k2 : Int32 × HS → Option (HS)) (x1 : Int32) (σ : HS) : Option (HS) :=
  if (5 : Int32) ≤ x1 then
    some σ
  else
    bd (f8_set (g + 1) 5 x1 x1 σ) fun r2 =>
    k2 ((x1 + 1), r2)
noncomputable def f0_takeFirstOrder_2 (g : Nat) (p : Int32 × HS) : Option (HS) :=
  wloop (fun k2 p => f0_takeFirstOrder_2_b g k2 p.1 p.2) fuelN p
noncomputable def f0_takeFirstOrder (g : Nat) (σ : HS) : Option (HS) :=
  f0_takeFirstOrder_2 g (0, σ)
noncomputable def f0_beginAnew (σ : HS) : Option (HS) :=
  bd (f0_takeFirstOrder 20 (uI (uI σ 20 2 0) 20 3 ((uI σ 20 2 0).1 5 2))) fun r1 =>
  some r1
noncomputable def f8_at_20 (k n : Nat) (σ : HS) : Option (Int32 × HS) :=
  some (0, σ)
noncomputable def f8_at (k n : Nat) (x1 : Int32) (σ : HS) : Option (Int32 × HS) :=
  if (x1 : Int32) < 0 then
    f8_at_20 k n σ
  else
    if (nI n : Int32) ≤ x1 then
      f8_at_20 k n σ
    else
      if (x1 : Int32) < 0 ∨ n ≤ (x1 : Int32).toNatClampNeg then none else
      some ((σ.1 k (x1 : Int32).toNatClampNeg), σ)
noncomputable def f0_whoAt (g : Nat) (x1 : Int32) (σ : HS) : Option (Int32 × HS) :=
  bd (f8_at (g + 1) 5 x1 σ) fun r1 =>
  some (r1.1, r1.2)
noncomputable def f0_follow_18_b (k18 : Int32 × HS → Option (HS)) (x2 : Int32) (σ : HS) : Option (HS) :=
  if (5 : Int32) ≤ x2 then
    some σ
  else
    bd (f0_whoAt 20 x2 σ) fun r2 =>
    bd (f8_set 31 5 x2 (r2.1) (r2.2)) fun r3 =>
    k18 ((x2 + 1), r3)
noncomputable def f0_follow_18 (p : Int32 × HS) : Option (HS) :=
  wloop (fun k18 p => f0_follow_18_b k18 p.1 p.2) fuelN p
noncomputable def f0_follow (σ : HS) : Option (HS) :=
  f0_follow_18 (0, (uI (uI σ 30 2 (σ.1 20 2)) 30 3 ((uI σ 30 2 (σ.1 20 2)).1 20 3)))
noncomputable def f0_turns_30 (g : Nat) (σ : HS) : Option (Int32 × HS) :=
  some ((σ.1 5 0), σ)
noncomputable def f0_turns (g : Nat) (σ : HS) : Option (Int32 × HS) :=
  if ((σ.1 g 2) : Int32) = 3 then
    if ((σ.1 5 0) : Int32) ≤ 0 then
      f0_turns_30 g σ
    else
      some (((σ.1 5 0) + 1), σ)
  else
    f0_turns_30 g σ
noncomputable def f0_hasTurn_16 (σ : HS) : Option (Int32 × HS) :=
  some (0, σ)
noncomputable def f0_hasTurn (x1 : Int32) (σ : HS) : Option (Int32 × HS) :=
  if (x1 : Int32) < 0 then
    f0_hasTurn_16 σ
  else
    bd (f0_turns 20 σ) fun r2 =>
    if (r2.1 : Int32) ≤ x1 then
      f0_hasTurn_16 (r2.2)
    else
      some (1, r2.2)
noncomputable def f0_whoIn_20 (g : Nat) (z0 : Int32) (σ : HS) : Option (Int32 × HS) :=
  bd (f8_at (g + 1) 5 z0 σ) fun r1 =>
  some (r1.1, r1.2)
noncomputable def f0_whoIn (g : Nat) (x1 : Int32) (σ : HS) : Option (Int32 × HS) :=
  if ((σ.1 5 0) : Int32) ≤ x1 then
    f0_whoIn_20 g 0 σ
  else
    f0_whoIn_20 g x1 σ
noncomputable def f0_placeOf_2_b (k2 : Int32 × HS → Option (Int32 × HS)) (x1 : Int32) (x2 : Int32) (σ : HS) : Option (Int32 × HS) :=
  if ((σ.1 5 0) : Int32) ≤ x2 then
    some ((-1), σ)
  else
    if (5 : Int32) ≤ x2 then
      some ((-1), σ)
    else
      bd (f0_whoAt 20 x2 σ) fun r3 =>
      if (r3.1 : Int32) = x1 then
        some (x2, r3.2)
      else
        k2 ((x2 + 1), r3.2)
noncomputable def f0_placeOf_2 (x1 : Int32) (p : Int32 × HS) : Option (Int32 × HS) :=
  wloop (fun k2 p => f0_placeOf_2_b k2 x1 p.1 p.2) fuelN p
noncomputable def f0_placeOf (x1 : Int32) (σ : HS) : Option (Int32 × HS) :=
  f0_placeOf_2 x1 (0, σ)
noncomputable def f0_exchange (g : Nat) (x1 : Int32) (x2 : Int32) (σ : HS) : Option (HS) :=
  bd (f0_whoAt g x1 σ) fun r1 =>
  bd (f0_whoAt g x2 (r1.2)) fun r2 =>
  bd (f8_set (g + 1) 5 x1 (r2.1) (r2.2)) fun r3 =>
  bd (f8_set (g + 1) 5 x2 (r1.1) r3) fun r4 =>
  some r4
noncomputable def f0_firstWater_36 (g : Nat) (σ : HS) : Option (Int32 × HS) :=
  some ((σ.1 5 1), σ)
noncomputable def f0_firstWater (g : Nat) (σ : HS) : Option (Int32 × HS) :=
  if ((σ.1 g 2) : Int32) = 1 then
    if ((σ.1 5 0) : Int32) ≤ 0 then
      f0_firstWater_36 g σ
    else
      if ((σ.1 5 0) : Int32) = 0 then none else
      some (((σ.1 5 1) / (σ.1 5 0)), σ)
  else
    f0_firstWater_36 g σ
noncomputable def f0_waterBehind_31 (g : Nat) (z0 : Int32) (σ : HS) : Option (Int32 × HS) :=
  if ((σ.1 g 2) : Int32) = 2 then
    some ((z0 / 2), σ)
  else
    some (z0, σ)
noncomputable def f0_waterBehind (g : Nat) (x1 : Int32) (σ : HS) : Option (Int32 × HS) :=
  if ((σ.1 g 2) : Int32) = 1 then
    bd (f0_firstWater g σ) fun r3 =>
    some (r3.1, r3.2)
  else
    if (x1 : Int32) ≤ (σ.1 g 3) then
      f0_waterBehind_31 g 0 σ
    else
      f0_waterBehind_31 g (x1 - (σ.1 g 3)) σ
noncomputable def f0_takeNextOrder_117_b (k117 : Int32 × Int32 × HS → Option (Int32 × HS)) (x3 : Int32) (x4 : Int32) (σ : HS) : Option (Int32 × HS) :=
  if (x4 : Int32) ≤ x3 then
    some (1, σ)
  else
    bd (f0_exchange 30 x3 x4 σ) fun r2 =>
    k117 ((x3 + 1), (x4 + (-1)), r2)
noncomputable def f0_takeNextOrder_117 (p : Int32 × Int32 × HS) : Option (Int32 × HS) :=
  wloop (fun k117 p => f0_takeNextOrder_117_b k117 p.1 p.2.1 p.2.2) fuelN p
noncomputable def f0_takeNextOrder_96 (x1 : Int32) (x2 : Int32) (σ : HS) : Option (Int32 × HS) :=
  bd (f0_exchange 30 x1 x2 σ) fun r1 =>
  f0_takeNextOrder_117 ((x1 + 1), ((r1.1 5 0) - 1), r1)
noncomputable def f0_takeNextOrder_90 (k59 : Int32 × Int32 × HS → Option (Int32 × HS)) (x1 : Int32) (x2 : Int32) (x3 : Int32) (σ : HS) : Option (Int32 × HS) :=
  k59 (x2, (x3 + 1), σ)
noncomputable def f0_takeNextOrder_59_b (k59 : Int32 × Int32 × HS → Option (Int32 × HS)) (x1 : Int32) (x2 : Int32) (x3 : Int32) (σ : HS) : Option (Int32 × HS) :=
  if ((σ.1 5 0) : Int32) ≤ x3 then
    f0_takeNextOrder_96 x1 x2 σ
  else
    if (5 : Int32) ≤ x3 then
      f0_takeNextOrder_96 x1 x2 σ
    else
      bd (f0_whoAt 30 x3 σ) fun r3 =>
      bd (f0_whoAt 30 x1 (r3.2)) fun r4 =>
      if (r3.1 : Int32) ≤ (r4.1) then
        f0_takeNextOrder_90 k59 x1 x2 x3 (r4.2)
      else
        f0_takeNextOrder_90 k59 x1 x3 x3 (r4.2)
noncomputable def f0_takeNextOrder_59 (x1 : Int32) (p : Int32 × Int32 × HS) : Option (Int32 × HS) :=
  wloop (fun k59 p => f0_takeNextOrder_59_b k59 x1 p.1 p.2.1 p.2.2) fuelN p
noncomputable def f0_takeNextOrder_45 (x1 : Int32) (σ : HS) : Option (Int32 × HS) :=
  if 0 ≤ (x1 : Int32) then
    f0_takeNextOrder_59 x1 ((x1 + 1), (x1 + 1), σ)
  else
    some (0, σ)
noncomputable def f0_takeNextOrder_39 (k4 : Int32 × Int32 × HS → Option (Int32 × HS)) (x1 : Int32) (x2 : Int32) (σ : HS) : Option (Int32 × HS) :=
  k4 (x1, (x2 + 1), σ)
noncomputable def f0_takeNextOrder_4_b (k4 : Int32 × Int32 × HS → Option (Int32 × HS)) (x1 : Int32) (x2 : Int32) (σ : HS) : Option (Int32 × HS) :=
  if ((σ.1 5 0) : Int32) ≤ (x2 + 1) then
    f0_takeNextOrder_45 x1 σ
  else
    if (5 : Int32) ≤ x2 then
      f0_takeNextOrder_45 x1 σ
    else
      bd (f0_whoAt 30 x2 σ) fun r3 =>
      bd (f0_whoAt 30 (x2 + 1) (r3.2)) fun r4 =>
      if (r4.1 : Int32) ≤ (r3.1) then
        f0_takeNextOrder_39 k4 x1 x2 (r4.2)
      else
        f0_takeNextOrder_39 k4 x2 x2 (r4.2)
noncomputable def f0_takeNextOrder_4 (p : Int32 × Int32 × HS) : Option (Int32 × HS) :=
  wloop (fun k4 p => f0_takeNextOrder_4_b k4 p.1 p.2.1 p.2.2) fuelN p
noncomputable def f0_takeNextOrder (σ : HS) : Option (Int32 × HS) :=
  f0_takeNextOrder_4 ((-1), 0, σ)
noncomputable def f0_changesFrom_36 (k4 : Int32 × Int32 × HS → Option (Int32 × HS)) (x2 : Int32) (x3 : Int32) (σ : HS) : Option (Int32 × HS) :=
  k4 (x2, (x3 + 1), σ)
noncomputable def f0_changesFrom_4_b (k4 : Int32 × Int32 × HS → Option (Int32 × HS)) (x2 : Int32) (x3 : Int32) (σ : HS) : Option (Int32 × HS) :=
  if ((σ.1 5 0) : Int32) ≤ x3 then
    some (x2, σ)
  else
    if (5 : Int32) ≤ x3 then
      some (x2, σ)
    else
      bd (f0_whoAt 30 x3 σ) fun r3 =>
      bd (f0_whoAt 20 x3 (r3.2)) fun r4 =>
      if (r3.1 : Int32) = (r4.1) then
        f0_changesFrom_36 k4 x2 x3 (r4.2)
      else
        f0_changesFrom_36 k4 (x2 + 1) x3 (r4.2)
noncomputable def f0_changesFrom_4 (p : Int32 × Int32 × HS) : Option (Int32 × HS) :=
  wloop (fun k4 p => f0_changesFrom_4_b k4 p.1 p.2.1 p.2.2) fuelN p
noncomputable def f0_changesFrom (σ : HS) : Option (Int32 × HS) :=
  f0_changesFrom_4 (0, 0, σ)
noncomputable def f1_begin (g : Nat) (σ : HS) : Option (HS) :=
  bd (f0_firstWater g (uI σ (g + 7) 5 0)) fun r1 =>
  some (uL (uI (uI (uI (r1.2) (g + 7) 6 (r1.1)) (g + 7) 7 0) (g + 7) 8 (-9)) (g + 7) 9 0)
noncomputable def f4_placeOfWord (x0 : Int32) (x1 : Int32) (σ : HS) : Option (Int32 × HS) :=
  some (((x0 * 3) + x1), σ)
noncomputable def f4_lengthOf (b : Nat) (x1 : Int32) (x2 : Int32) (σ : HS) : Option (Int32 × HS) :=
  bd (f4_placeOfWord x1 x2 σ) fun r1 =>
  bd (f8_at (b + 3) 15 (r1.1) (r1.2)) fun r2 =>
  some (r2.1, r2.2)
noncomputable def f8_longAt_20 (k n : Nat) (σ : HS) : Option (Int64 × HS) :=
  some (0, σ)
noncomputable def f8_longAt (k n : Nat) (x1 : Int32) (σ : HS) : Option (Int64 × HS) :=
  if (x1 : Int32) < 0 then
    f8_longAt_20 k n σ
  else
    if (nI n : Int32) ≤ x1 then
      f8_longAt_20 k n σ
    else
      if (x1 : Int32) < 0 ∨ n ≤ (x1 : Int32).toNatClampNeg then none else
      some ((σ.2 k (x1 : Int32).toNatClampNeg), σ)
noncomputable def f4_gainBy (x1 : Int32) (x2 : Int32) (σ : HS) : Option (Int64 × HS) :=
  bd (f4_placeOfWord x1 x2 σ) fun r1 =>
  bd (f8_longAt 11 15 (r1.1) (r1.2)) fun r2 =>
  some (r2.1, r2.2)
noncomputable def f1_speak_143 (g : Nat) (σ : HS) : Option (HS) :=
  bd (f0_waterBehind g (σ.1 (g + 7) 6) σ) fun r1 =>
  some (uI (uI (r1.2) (g + 7) 6 (r1.1)) (g + 7) 5 (((uI (r1.2) (g + 7) 6 (r1.1)).1 (g + 7) 5) + 1))
noncomputable def f1_speak_88 (g : Nat) (z0 : Int32) (σ : HS) : Option (HS) :=
  f1_speak_143 g (uI (uI σ (g + 7) 8 z0) (g + 7) 6 0)
noncomputable def f1_speak_58 (g : Nat) (x1 : Int32) (x2 : Int32) (z0 : Int32) (σ : HS) : Option (HS) :=
  if (z0 : Int32) ≤ (σ.1 (g + 7) 6) then
    if (x1 : Int32) = (-9) then
      f1_speak_143 g σ
    else
      bd (f4_gainBy x2 x1 (uI σ (g + 7) 7 ((σ.1 (g + 7) 7) + 1))) fun r3 =>
      f1_speak_143 g (uI (uL (r3.2) (g + 7) 9 (((uI σ (g + 7) 7 ((σ.1 (g + 7) 7) + 1)).2 (g + 7) 9) + (r3.1))) (g + 7) 6 (((uL (r3.2) (g + 7) 9 (((uI σ (g + 7) 7 ((σ.1 (g + 7) 7) + 1)).2 (g + 7) 9) + (r3.1))).1 (g + 7) 6) - z0))
  else
    if ((σ.1 (g + 7) 8) : Int32) = (-9) then
      f1_speak_88 g (σ.1 (g + 7) 5) σ
    else
      f1_speak_88 g (σ.1 (g + 7) 8) σ
noncomputable def f1_speak (g : Nat) (x1 : Int32) (σ : HS) : Option (HS) :=
  bd (f0_whoIn g (σ.1 (g + 7) 5) σ) fun r1 =>
  bd (f8_set (g + 8) 6 ((r1.2).1 (g + 7) 5) x1 (r1.2)) fun r2 =>
  bd (f8_set (g + 9) 6 (r2.1 (g + 7) 5) (r2.1 (g + 7) 6) r2) fun r3 =>
  if (x1 : Int32) = (-9) then
    f1_speak_58 g x1 (r1.1) 0 r3
  else
    bd (f4_lengthOf 5 (r1.1) x1 r3) fun r5 =>
    f1_speak_58 g x1 (r1.1) (r5.1) (r5.2)
noncomputable def f5_stateOf (x0 : Int32) (x1 : Int32) (σ : HS) : Option (Int32 × HS) :=
  some (((x0 * 100) + x1), σ)
noncomputable def f5_wordAt (g : Nat) (x1 : Int32) (x2 : Int32) (σ : HS) : Option (Int32 × HS) :=
  bd (f5_stateOf x1 x2 σ) fun r1 =>
  bd (f8_at (g + 3) 600 (r1.1) (r1.2)) fun r2 =>
  some (r2.1, r2.2)
noncomputable def f1_goForced_45 (g : Nat) (k6 : Int32 × HS → Option (HS)) (x1 : Int32) (x2 : Int32) (x3 : Int32) (z0 : Int32) (σ : HS) : Option (HS) :=
  bd (f1_speak g z0 σ) fun r1 =>
  k6 ((x3 + 1), r1)
noncomputable def f1_goForced_6_b (g : Nat) (k6 : Int32 × HS → Option (HS)) (x1 : Int32) (x2 : Int32) (x3 : Int32) (σ : HS) : Option (HS) :=
  bd (f0_turns g σ) fun r1 =>
  if (r1.1 : Int32) ≤ x3 then
    some (r1.2)
  else
    if (6 : Int32) ≤ x3 then
      some (r1.2)
    else
      if (x3 : Int32) = x1 then
        f1_goForced_45 g k6 x1 x2 x3 x2 (r1.2)
      else
        bd (f5_wordAt g x3 ((r1.2).1 (g + 7) 6) (r1.2)) fun r5 =>
        f1_goForced_45 g k6 x1 x2 x3 (r5.1) (r5.2)
noncomputable def f1_goForced_6 (g : Nat) (x1 : Int32) (x2 : Int32) (p : Int32 × HS) : Option (HS) :=
  wloop (fun k6 p => f1_goForced_6_b g k6 x1 x2 p.1 p.2) fuelN p
noncomputable def f1_goForced (g : Nat) (x1 : Int32) (x2 : Int32) (σ : HS) : Option (HS) :=
  bd (f1_begin g σ) fun r1 =>
  f1_goForced_6 g x1 x2 (0, r1)
noncomputable def f1_goFreely (g : Nat) (σ : HS) : Option (HS) :=
  bd (f1_goForced g (-1) (-9) σ) fun r1 =>
  some r1
noncomputable def f1_saidIn (g : Nat) (x1 : Int32) (σ : HS) : Option (Int32 × HS) :=
  bd (f8_at (g + 8) 6 x1 σ) fun r1 =>
  some (r1.1, r1.2)
noncomputable def f1_waterIn (x1 : Int32) (σ : HS) : Option (Int32 × HS) :=
  bd (f8_at 29 6 x1 σ) fun r1 =>
  some (r1.1, r1.2)
noncomputable def f1_hasSaid_39 (k2 : Int32 × HS → Option (Int32 × HS)) (x1 : Int32) (x2 : Int32) (x3 : Int32) (σ : HS) : Option (Int32 × HS) :=
  k2 ((x3 + 1), σ)
noncomputable def f1_hasSaid_2_b (k2 : Int32 × HS → Option (Int32 × HS)) (x1 : Int32) (x2 : Int32) (x3 : Int32) (σ : HS) : Option (Int32 × HS) :=
  if ((σ.1 27 5) : Int32) ≤ x3 then
    some (0, σ)
  else
    if (6 : Int32) ≤ x3 then
      some (0, σ)
    else
      bd (f0_whoIn 20 x3 σ) fun r3 =>
      if (r3.1 : Int32) = x1 then
        bd (f1_saidIn 20 x3 (r3.2)) fun r5 =>
        if (r5.1 : Int32) = x2 then
          some (1, r5.2)
        else
          f1_hasSaid_39 k2 x1 x2 x3 (r5.2)
      else
        f1_hasSaid_39 k2 x1 x2 x3 (r3.2)
noncomputable def f1_hasSaid_2 (x1 : Int32) (x2 : Int32) (p : Int32 × HS) : Option (Int32 × HS) :=
  wloop (fun k2 p => f1_hasSaid_2_b k2 x1 x2 p.1 p.2) fuelN p
noncomputable def f1_hasSaid (x1 : Int32) (x2 : Int32) (σ : HS) : Option (Int32 × HS) :=
  f1_hasSaid_2 x1 x2 (0, σ)
noncomputable def f1_runAwayBy_56 (k4 : Int32 × Int32 × HS → Option (Int32 × HS)) (x1 : Int32) (x2 : Int32) (x3 : Int32) (σ : HS) : Option (Int32 × HS) :=
  k4 (x2, (x3 + 1), σ)
noncomputable def f1_runAwayBy_4_b (k4 : Int32 × Int32 × HS → Option (Int32 × HS)) (x1 : Int32) (x2 : Int32) (x3 : Int32) (σ : HS) : Option (Int32 × HS) :=
  if ((σ.1 27 5) : Int32) ≤ x3 then
    some (x2, σ)
  else
    if (6 : Int32) ≤ x3 then
      some (x2, σ)
    else
      bd (f0_whoIn 20 x3 σ) fun r3 =>
      if (r3.1 : Int32) = x1 then
        bd (f1_saidIn 20 x3 (r3.2)) fun r5 =>
        if (r5.1 : Int32) = (-9) then
          f1_runAwayBy_56 k4 x1 x2 x3 (r5.2)
        else
          bd (f1_saidIn 20 x3 (r5.2)) fun r7 =>
          bd (f4_lengthOf 5 x1 (r7.1) (r7.2)) fun r8 =>
          f1_runAwayBy_56 k4 x1 (x2 + (r8.1)) x3 (r8.2)
      else
        f1_runAwayBy_56 k4 x1 x2 x3 (r3.2)
noncomputable def f1_runAwayBy_4 (x1 : Int32) (p : Int32 × Int32 × HS) : Option (Int32 × HS) :=
  wloop (fun k4 p => f1_runAwayBy_4_b k4 x1 p.1 p.2.1 p.2.2) fuelN p
noncomputable def f1_runAwayBy (x1 : Int32) (σ : HS) : Option (Int32 × HS) :=
  f1_runAwayBy_4 x1 (0, 0, σ)
noncomputable def f2_clear (σ : HS) : Option (HS) :=
  some (uI σ 40 3 0)
noncomputable def f2_note (x1 : Int32) (x2 : Int32) (σ : HS) : Option (HS) :=
  bd (f8_set 41 36 (((σ.1 40 3) * 6) + x1) x2 σ) fun r1 =>
  some r1
noncomputable def f2_close (x1 : Int32) (σ : HS) : Option (Int32 × HS) :=
  bd (f8_set 42 6 (σ.1 40 3) x1 σ) fun r1 =>
  some ((σ.1 40 3), (uI r1 40 3 ((r1.1 40 3) + 1)))
noncomputable def f2_goBy_6_b (k6 : Int32 × HS → Option (HS)) (x1 : Int32) (x3 : Int32) (σ : HS) : Option (HS) :=
  bd (f0_turns 30 σ) fun r1 =>
  if (r1.1 : Int32) ≤ x3 then
    some (r1.2)
  else
    if (6 : Int32) ≤ x3 then
      some (r1.2)
    else
      bd (f8_at 41 36 ((x1 * 6) + x3) (r1.2)) fun r4 =>
      bd (f1_speak 30 (r4.1) (r4.2)) fun r5 =>
      k6 ((x3 + 1), r5)
noncomputable def f2_goBy_6 (x1 : Int32) (p : Int32 × HS) : Option (HS) :=
  wloop (fun k6 p => f2_goBy_6_b k6 x1 p.1 p.2) fuelN p
noncomputable def f2_goBy (x1 : Int32) (σ : HS) : Option (HS) :=
  bd (f1_begin 30 σ) fun r1 =>
  f2_goBy_6 x1 (0, r1)
noncomputable def f2_compare_65 (k2 : Int32 × HS → Option (HS)) (k22 : Int32 × Int32 × HS → Option (HS)) (x3 : Int32) (x4 : Int32) (x5 : Int32) (σ : HS) : Option (HS) :=
  k22 (x4, (x5 + 1), σ)
noncomputable def f2_compare_22_b (k2 : Int32 × HS → Option (HS)) (k22 : Int32 × Int32 × HS → Option (HS)) (x3 : Int32) (x4 : Int32) (x5 : Int32) (σ : HS) : Option (HS) :=
  if (9 : Int32) < x5 then
    bd (f8_set 43 6 x3 x4 σ) fun r2 =>
    k2 ((x3 + 1), r2)
  else
    bd (f2_goBy x3 (uI σ 30 3 x5)) fun r3 =>
    bd (f8_at 42 6 x3 r3) fun r4 =>
    if ((r3.1 37 6) : Int32) = (r4.1) then
      f2_compare_65 k2 k22 x3 (x4 ||| (1 <<< (x5 &&& 31))) x5 (r4.2)
    else
      f2_compare_65 k2 k22 x3 x4 x5 (r4.2)
noncomputable def f2_compare_22 (k2 : Int32 × HS → Option (HS)) (x3 : Int32) (p : Int32 × Int32 × HS) : Option (HS) :=
  wloop (fun k22 p => f2_compare_22_b k2 k22 x3 p.1 p.2.1 p.2.2) fuelN p
noncomputable def f2_compare_2_b (k2 : Int32 × HS → Option (HS)) (x3 : Int32) (σ : HS) : Option (HS) :=
  if ((σ.1 40 3) : Int32) ≤ x3 then
    some σ
  else
    if (6 : Int32) ≤ x3 then
      some σ
    else
      f2_compare_22 k2 x3 (0, 0, σ)
noncomputable def f2_compare_2 (p : Int32 × HS) : Option (HS) :=
  wloop (fun k2 p => f2_compare_2_b k2 p.1 p.2) fuelN p
noncomputable def f2_compare (σ : HS) : Option (HS) :=
  f2_compare_2 (0, σ)
noncomputable def f2_fits_36 (k2 : Int32 × HS → Option (Int32 × HS)) (x1 : Int32) (x2 : Int32) (x3 : Int32) (x4 : Int32) (z0 : Int32) (σ : HS) : Option (Int32 × HS) :=
  if (((x4 >>> (z0 &&& 31)) &&& 1) : Int32) = 0 then
    some (0, σ)
  else
    k2 ((x3 + 1), σ)
noncomputable def f2_fits_2_b (k2 : Int32 × HS → Option (Int32 × HS)) (x1 : Int32) (x2 : Int32) (x3 : Int32) (σ : HS) : Option (Int32 × HS) :=
  if ((σ.1 40 3) : Int32) ≤ x3 then
    some (1, σ)
  else
    if (6 : Int32) ≤ x3 then
      some (1, σ)
    else
      bd (f8_at 43 6 x3 σ) fun r3 =>
      if (x1 : Int32) ≤ x3 then
        f2_fits_36 k2 x1 x2 x3 (r3.1) x2 (r3.2)
      else
        f2_fits_36 k2 x1 x2 x3 (r3.1) 0 (r3.2)
noncomputable def f2_fits_2 (x1 : Int32) (x2 : Int32) (p : Int32 × HS) : Option (Int32 × HS) :=
  wloop (fun k2 p => f2_fits_2_b k2 x1 x2 p.1 p.2) fuelN p
noncomputable def f2_fits (x1 : Int32) (x2 : Int32) (σ : HS) : Option (Int32 × HS) :=
  f2_fits_2 x1 x2 (0, σ)
noncomputable def f3_forget (σ : HS) : Option (HS) :=
  some (uI σ 44 6 0)
noncomputable def f5_beginMaking (g : Nat) (σ : HS) : Option (HS) :=
  bd (f0_turns g (uI (uI σ (g + 2) 7 ((σ.1 (g + 2) 7) + 1)) (g + 2) 5 0)) fun r1 =>
  some (uI (r1.2) (g + 2) 8 (r1.1))
noncomputable def f5_openState (g : Nat) (x1 : Int32) (x2 : Int32) (σ : HS) : Option (HS) :=
  bd (f5_stateOf x1 x2 σ) fun r1 =>
  if (((r1.2).1 (g + 2) 8) : Int32) ≤ x1 then
    some (r1.2)
  else
    bd (f8_at (g + 6) 600 (r1.1) (r1.2)) fun r3 =>
    if (r3.1 : Int32) = ((r3.2).1 (g + 2) 7) then
      some (r3.2)
    else
      bd (f8_set (g + 6) 600 (r1.1) ((r3.2).1 (g + 2) 7) (r3.2)) fun r5 =>
      bd (f8_set (g + 5) 600 (r5.1 (g + 2) 5) (r1.1) r5) fun r6 =>
      some (uI r6 (g + 2) 5 ((r6.1 (g + 2) 5) + 1))
noncomputable def f4_wordsOf (b : Nat) (x1 : Int32) (σ : HS) : Option (Int32 × HS) :=
  bd (f8_at (b + 2) 5 x1 σ) fun r1 =>
  some (r1.1, r1.2)
noncomputable def f5_openBehind_82 (k27 : Int32 × HS → Option (HS)) (x1 : Int32) (x2 : Int32) (x3 : Int32) (x4 : Int32) (σ : HS) : Option (HS) :=
  k27 ((x4 + 1), σ)
noncomputable def f5_openBehind_27_b (k27 : Int32 × HS → Option (HS)) (x1 : Int32) (x2 : Int32) (x3 : Int32) (x4 : Int32) (σ : HS) : Option (HS) :=
  bd (f4_wordsOf 5 x3 σ) fun r1 =>
  if (r1.1 : Int32) ≤ x4 then
    some (r1.2)
  else
    if (3 : Int32) ≤ x4 then
      some (r1.2)
    else
      bd (f4_lengthOf 5 x3 x4 (r1.2)) fun r4 =>
      if (x2 : Int32) < (r4.1) then
        f5_openBehind_82 k27 x1 x2 x3 x4 (r4.2)
      else
        bd (f0_waterBehind 30 (x2 - (r4.1)) (r4.2)) fun r6 =>
        bd (f5_openState 30 (x1 + 1) (r6.1) (r6.2)) fun r7 =>
        f5_openBehind_82 k27 x1 x2 x3 x4 r7
noncomputable def f5_openBehind_27 (x1 : Int32) (x2 : Int32) (x3 : Int32) (p : Int32 × HS) : Option (HS) :=
  wloop (fun k27 p => f5_openBehind_27_b k27 x1 x2 x3 p.1 p.2) fuelN p
noncomputable def f5_openBehind (x1 : Int32) (x2 : Int32) (σ : HS) : Option (HS) :=
  bd (f0_whoIn 30 x1 σ) fun r1 =>
  bd (f0_waterBehind 30 x2 (r1.2)) fun r2 =>
  bd (f5_openState 30 (x1 + 1) (r2.1) (r2.2)) fun r3 =>
  f5_openBehind_27 x1 x2 (r1.1) (0, r3)
noncomputable def f5_openWhatIsReached_18_b (k18 : Int32 × HS → Option (HS)) (x1 : Int32) (σ : HS) : Option (HS) :=
  if ((σ.1 32 5) : Int32) ≤ x1 then
    some σ
  else
    if (600 : Int32) ≤ x1 then
      some σ
    else
      bd (f8_at 35 600 x1 σ) fun r3 =>
      bd (f5_openBehind ((r3.1) / 100) ((r3.1) - (r3.1) / 100 * 100) (r3.2)) fun r4 =>
      k18 ((x1 + 1), r4)
noncomputable def f5_openWhatIsReached_18 (p : Int32 × HS) : Option (HS) :=
  wloop (fun k18 p => f5_openWhatIsReached_18_b k18 p.1 p.2) fuelN p
noncomputable def f5_openWhatIsReached (σ : HS) : Option (HS) :=
  bd (f5_beginMaking 30 σ) fun r1 =>
  bd (f0_firstWater 30 r1) fun r2 =>
  bd (f5_openState 30 0 (r2.1) (r2.2)) fun r3 =>
  f5_openWhatIsReached_18 (0, r3)
noncomputable def f4_kindOf (b : Nat) (x1 : Int32) (σ : HS) : Option (Int32 × HS) :=
  bd (f8_at (b + 1) 5 x1 σ) fun r1 =>
  some (r1.1, r1.2)
noncomputable def f5_worthsFrom (g : Nat) (x1 : Int32) (x2 : Int32) (σ : HS) : Option (Int64 × HS) :=
  if ((σ.1 (g + 2) 8) : Int32) ≤ x1 then
    some (0, σ)
  else
    bd (f5_stateOf x1 x2 σ) fun r2 =>
    bd (f8_longAt (g + 4) 600 (r2.1) (r2.2)) fun r3 =>
    some (r3.1, r3.2)
noncomputable def f8_worthIn_23 (σ : HS) : Option (Int32 × HS) :=
  some (0, σ)
noncomputable def f8_worthIn (x0 : Int64) (x2 : Int32) (σ : HS) : Option (Int32 × HS) :=
  if (x2 : Int32) < 0 then
    f8_worthIn_23 σ
  else
    if (5 : Int32) ≤ x2 then
      f8_worthIn_23 σ
    else
      some (((((x0 >>> (((x2 * 8) : Int32).toInt64 &&& 63)) : Int64).toInt32) &&& 255), σ)
noncomputable def f8_worthToAll_4_b (k4 : Int32 × Int32 × HS → Option (Int32 × HS)) (x0 : Int64) (x2 : Int32) (x3 : Int32) (σ : HS) : Option (Int32 × HS) :=
  if (5 : Int32) ≤ x3 then
    some (x2, σ)
  else
    bd (f8_worthIn x0 x3 σ) fun r2 =>
    k4 ((x2 + (r2.1)), (x3 + 1), r2.2)
noncomputable def f8_worthToAll_4 (x0 : Int64) (p : Int32 × Int32 × HS) : Option (Int32 × HS) :=
  wloop (fun k4 p => f8_worthToAll_4_b k4 x0 p.1 p.2.1 p.2.2) fuelN p
noncomputable def f8_worthToAll (x0 : Int64) (σ : HS) : Option (Int32 × HS) :=
  f8_worthToAll_4 x0 (0, 0, σ)
noncomputable def f5_isRather (x0 : Int32) (x1 : Int32) (x2 : Int32) (σ : HS) : Option (Int32 × HS) :=
  if (x0 : Int32) = 0 then
    if (x1 : Int32) ≤ x2 then
      some (0, σ)
    else
      some (1, σ)
  else
    if (x2 : Int32) ≤ x1 then
      some (0, σ)
    else
      some (1, σ)
noncomputable def f8_setLong (k n : Nat) (x1 : Int32) (x2 : Int64) (σ : HS) : Option (HS) :=
  if (x1 : Int32) < 0 then
    some σ
  else
    if (nI n : Int32) ≤ x1 then
      some σ
    else
      if (x1 : Int32) < 0 ∨ n ≤ (x1 : Int32).toNatClampNeg then none else
      some (uL σ k (x1 : Int32).toNatClampNeg x2)
noncomputable def f5_settle_239 (g : Nat) (x1 : Int32) (x2 : Int32) (x7 : Int32) (x9 : Int64) (σ : HS) : Option (HS) :=
  bd (f5_stateOf x1 x2 σ) fun r1 =>
  bd (f8_set (g + 3) 600 (r1.1) x7 (r1.2)) fun r2 =>
  bd (f5_stateOf x1 x2 r2) fun r3 =>
  bd (f8_setLong (g + 4) 600 (r3.1) x9 (r3.2)) fun r4 =>
  some r4
noncomputable def f5_settle_233 (g : Nat) (k73 : Int32 × Int32 × Int64 × Int32 × HS → Option (HS)) (x1 : Int32) (x2 : Int32) (x3 : Int32) (x4 : Int32) (x5 : Int32) (x6 : Int32) (x7 : Int32) (x8 : Int32) (x9 : Int64) (x11 : Int32) (σ : HS) : Option (HS) :=
  k73 (x7, x8, x9, (x11 + 1), σ)
noncomputable def f5_settle_221 (g : Nat) (k73 : Int32 × Int32 × Int64 × Int32 × HS → Option (HS)) (x1 : Int32) (x2 : Int32) (x3 : Int32) (x4 : Int32) (x5 : Int32) (x6 : Int32) (x11 : Int32) (x12 : Int32) (x14 : Int64) (σ : HS) : Option (HS) :=
  f5_settle_233 g k73 x1 x2 x3 x4 x5 x6 x11 x12 x14 x11 σ
noncomputable def f5_settle_204 (g : Nat) (k73 : Int32 × Int32 × Int64 × Int32 × HS → Option (HS)) (x1 : Int32) (x2 : Int32) (x3 : Int32) (x4 : Int32) (x5 : Int32) (x6 : Int32) (x7 : Int32) (x8 : Int32) (x9 : Int64) (x11 : Int32) (x12 : Int32) (x14 : Int64) (x16 : Int32) (z0 : Int32) (σ : HS) : Option (HS) :=
  if 0 < (x16 : Int32) then
    f5_settle_221 g k73 x1 x2 x3 x4 x5 x6 x11 x12 x14 σ
  else
    if (x16 : Int32) = 0 then
      if (z0 : Int32) = 0 then
        f5_settle_233 g k73 x1 x2 x3 x4 x5 x6 x7 x8 x9 x11 σ
      else
        f5_settle_221 g k73 x1 x2 x3 x4 x5 x6 x11 x12 x14 σ
    else
      f5_settle_233 g k73 x1 x2 x3 x4 x5 x6 x7 x8 x9 x11 σ
noncomputable def f5_settle_174 (g : Nat) (k73 : Int32 × Int32 × Int64 × Int32 × HS → Option (HS)) (x1 : Int32) (x2 : Int32) (x3 : Int32) (x4 : Int32) (x5 : Int32) (x6 : Int32) (x7 : Int32) (x8 : Int32) (x9 : Int64) (x11 : Int32) (x12 : Int32) (x14 : Int64) (z0 : Int32) (σ : HS) : Option (HS) :=
  if (x3 : Int32) = 0 then
    bd (f5_isRather x5 x12 x8 σ) fun r2 =>
    f5_settle_204 g k73 x1 x2 x3 x4 x5 x6 x7 x8 x9 x11 x12 x14 z0 (r2.1) (r2.2)
  else
    if (x7 : Int32) = (-9) then
      f5_settle_204 g k73 x1 x2 x3 x4 x5 x6 x7 x8 x9 x11 x12 x14 z0 1 σ
    else
      f5_settle_204 g k73 x1 x2 x3 x4 x5 x6 x7 x8 x9 x11 x12 x14 z0 0 σ
noncomputable def f5_settle_73_b (g : Nat) (k73 : Int32 × Int32 × Int64 × Int32 × HS → Option (HS)) (x1 : Int32) (x2 : Int32) (x3 : Int32) (x4 : Int32) (x5 : Int32) (x6 : Int32) (x7 : Int32) (x8 : Int32) (x9 : Int64) (x11 : Int32) (σ : HS) : Option (HS) :=
  if (x6 : Int32) ≤ x11 then
    f5_settle_239 g x1 x2 x7 x9 σ
  else
    if (3 : Int32) ≤ x11 then
      f5_settle_239 g x1 x2 x7 x9 σ
    else
      bd (f4_lengthOf 5 x4 x11 σ) fun r3 =>
      if (x2 : Int32) < (r3.1) then
        f5_settle_233 g k73 x1 x2 x3 x4 x5 x6 x7 x8 x9 x11 (r3.2)
      else
        bd (f0_waterBehind g (x2 - (r3.1)) (r3.2)) fun r5 =>
        bd (f5_worthsFrom g (x1 + 1) (r5.1) (r5.2)) fun r6 =>
        bd (f4_gainBy x4 x11 (r6.2)) fun r7 =>
        if (x3 : Int32) = 0 then
          bd (f8_worthIn ((r6.1) + (r7.1)) x4 (r7.2)) fun r9 =>
          bd (f8_worthIn x9 x4 (r9.2)) fun r10 =>
          f5_settle_174 g k73 x1 x2 x3 x4 x5 x6 x7 x8 x9 x11 (r3.1) ((r6.1) + (r7.1)) ((r9.1) - (r10.1)) (r10.2)
        else
          bd (f8_worthToAll ((r6.1) + (r7.1)) (r7.2)) fun r11 =>
          bd (f8_worthToAll x9 (r11.2)) fun r12 =>
          f5_settle_174 g k73 x1 x2 x3 x4 x5 x6 x7 x8 x9 x11 (r3.1) ((r6.1) + (r7.1)) ((r11.1) - (r12.1)) (r12.2)
noncomputable def f5_settle_73 (g : Nat) (x1 : Int32) (x2 : Int32) (x3 : Int32) (x4 : Int32) (x5 : Int32) (x6 : Int32) (p : Int32 × Int32 × Int64 × Int32 × HS) : Option (HS) :=
  wloop (fun k73 p => f5_settle_73_b g k73 x1 x2 x3 x4 x5 x6 p.1 p.2.1 p.2.2.1 p.2.2.2.1 p.2.2.2.2) fuelN p
noncomputable def f5_settle_44 (g : Nat) (x1 : Int32) (x2 : Int32) (x3 : Int32) (x4 : Int32) (x5 : Int32) (z0 : Int32) (σ : HS) : Option (HS) :=
  bd (f0_waterBehind g x2 σ) fun r1 =>
  bd (f5_worthsFrom g (x1 + 1) (r1.1) (r1.2)) fun r2 =>
  f5_settle_73 g x1 x2 x3 x4 x5 z0 ((-9), 0, r2.1, 0, r2.2)
noncomputable def f5_settle_31 (g : Nat) (x1 : Int32) (x2 : Int32) (x3 : Int32) (x4 : Int32) (x5 : Int32) (σ : HS) : Option (HS) :=
  bd (f4_wordsOf 5 x4 σ) fun r1 =>
  f5_settle_44 g x1 x2 x3 x4 x5 (r1.1) (r1.2)
noncomputable def f5_settle (g : Nat) (x1 : Int32) (x2 : Int32) (x3 : Int32) (σ : HS) : Option (HS) :=
  bd (f0_whoIn g x1 σ) fun r1 =>
  bd (f4_kindOf 5 (r1.1) (r1.2)) fun r2 =>
  if (x3 : Int32) = 0 then
    if (r2.1 : Int32) = 2 then
      f5_settle_44 g x1 x2 x3 (r1.1) (r2.1) 0 (r2.2)
    else
      f5_settle_31 g x1 x2 x3 (r1.1) (r2.1) (r2.2)
  else
    f5_settle_31 g x1 x2 x3 (r1.1) (r2.1) (r2.2)
noncomputable def f5_settleAll_7_b (g : Nat) (k7 : Int32 × HS → Option (HS)) (x1 : Int32) (x2 : Int32) (σ : HS) : Option (HS) :=
  if (x2 : Int32) < 0 then
    some σ
  else
    bd (f8_at (g + 5) 600 x2 σ) fun r2 =>
    bd (f5_settle g ((r2.1) / 100) ((r2.1) - (r2.1) / 100 * 100) x1 (r2.2)) fun r3 =>
    k7 ((x2 + (-1)), r3)
noncomputable def f5_settleAll_7 (g : Nat) (x1 : Int32) (p : Int32 × HS) : Option (HS) :=
  wloop (fun k7 p => f5_settleAll_7_b g k7 x1 p.1 p.2) fuelN p
noncomputable def f5_settleAll (g : Nat) (x1 : Int32) (σ : HS) : Option (HS) :=
  f5_settleAll_7 g x1 (((σ.1 (g + 2) 5) - 1), σ)
noncomputable def f5_makeForFreeDay (σ : HS) : Option (HS) :=
  bd (f5_openWhatIsReached σ) fun r1 =>
  bd (f5_settleAll 30 0 r1) fun r2 =>
  some r2
noncomputable def f3_packedOrder_4_b (k4 : Int32 × Int32 × HS → Option (Int32 × HS)) (x1 : Int32) (x2 : Int32) (σ : HS) : Option (Int32 × HS) :=
  if (5 : Int32) ≤ x2 then
    some (x1, σ)
  else
    bd (f0_whoAt 30 x2 σ) fun r2 =>
    k4 ((x1 ||| ((r2.1) <<< ((x2 * 3) &&& 31))), (x2 + 1), r2.2)
noncomputable def f3_packedOrder_4 (p : Int32 × Int32 × HS) : Option (Int32 × HS) :=
  wloop (fun k4 p => f3_packedOrder_4_b k4 p.1 p.2.1 p.2.2) fuelN p
noncomputable def f3_packedOrder (σ : HS) : Option (Int32 × HS) :=
  f3_packedOrder_4 (0, 0, σ)
noncomputable def f3_noteWords_84 (k2 : Int32 × HS → Option (HS)) (x1 : Int32) (x2 : Int32) (x3 : Int32) (σ : HS) : Option (HS) :=
  k2 ((x3 + 1), σ)
noncomputable def f3_noteWords_2_b (k2 : Int32 × HS → Option (HS)) (x1 : Int32) (x2 : Int32) (x3 : Int32) (σ : HS) : Option (HS) :=
  bd (f0_turns 30 σ) fun r1 =>
  if (r1.1 : Int32) ≤ x3 then
    some (r1.2)
  else
    if (6 : Int32) ≤ x3 then
      some (r1.2)
    else
      bd (f1_saidIn 30 x3 (r1.2)) fun r4 =>
      bd (f0_whoIn 30 x3 (r4.2)) fun r5 =>
      bd (f4_placeOfWord (r5.1) (r4.1) (r5.2)) fun r6 =>
      if (r4.1 : Int32) = (-9) then
        f3_noteWords_84 k2 x1 x2 x3 (r6.2)
      else
        bd (f8_at 45 15 (r6.1) (r6.2)) fun r8 =>
        if (r8.1 : Int32) ≤ x1 then
          f3_noteWords_84 k2 x1 x2 x3 (r8.2)
        else
          bd (f8_set 45 15 (r6.1) x1 (r8.2)) fun r10 =>
          bd (f8_set 46 15 (r6.1) x2 r10) fun r11 =>
          f3_noteWords_84 k2 x1 x2 x3 r11
noncomputable def f3_noteWords_2 (x1 : Int32) (x2 : Int32) (p : Int32 × HS) : Option (HS) :=
  wloop (fun k2 p => f3_noteWords_2_b k2 x1 x2 p.1 p.2) fuelN p
noncomputable def f3_noteWords (x1 : Int32) (x2 : Int32) (σ : HS) : Option (HS) :=
  f3_noteWords_2 x1 x2 (0, σ)
noncomputable def f3_seek_111 (σ : HS) : Option (HS) :=
  some (uI σ 44 6 1)
noncomputable def f3_seek_54_b (k54 : Int32 × Int32 × HS → Option (HS)) (x1 : Int32) (x2 : Int32) (σ : HS) : Option (HS) :=
  if (120 : Int32) ≤ x2 then
    f3_seek_111 σ
  else
    if (x1 : Int32) = 0 then
      f3_seek_111 σ
    else
      bd (f5_makeForFreeDay σ) fun r3 =>
      bd (f1_goFreely 30 r3) fun r4 =>
      bd (f0_changesFrom r4) fun r5 =>
      bd (f3_packedOrder (r5.2)) fun r6 =>
      bd (f3_noteWords (r5.1) (r6.1) (r6.2)) fun r7 =>
      bd (f0_takeNextOrder r7) fun r8 =>
      k54 (r8.1, (x2 + 1), r8.2)
noncomputable def f3_seek_54 (p : Int32 × Int32 × HS) : Option (HS) :=
  wloop (fun k54 p => f3_seek_54_b k54 p.1 p.2.1 p.2.2) fuelN p
noncomputable def f3_seek_10_b (k10 : Int32 × HS → Option (HS)) (x1 : Int32) (σ : HS) : Option (HS) :=
  if (15 : Int32) ≤ x1 then
    bd (f0_follow σ) fun r2 =>
    bd (f0_takeFirstOrder 30 r2) fun r3 =>
    f3_seek_54 (1, 0, r3)
  else
    bd (f8_set 45 15 x1 6 σ) fun r4 =>
    k10 ((x1 + 1), r4)
noncomputable def f3_seek_10 (p : Int32 × HS) : Option (HS) :=
  wloop (fun k10 p => f3_seek_10_b k10 p.1 p.2) fuelN p
noncomputable def f3_seek (σ : HS) : Option (HS) :=
  if ((σ.1 44 6) : Int32) = 0 then
    f3_seek_10 (0, σ)
  else
    some σ
noncomputable def f3_changesFor (x1 : Int32) (x2 : Int32) (σ : HS) : Option (Int32 × HS) :=
  bd (f4_placeOfWord x1 x2 σ) fun r1 =>
  bd (f8_at 45 15 (r1.1) (r1.2)) fun r2 =>
  some (r2.1, r2.2)
noncomputable def f3_isFound (x1 : Int32) (x2 : Int32) (σ : HS) : Option (Int32 × HS) :=
  bd (f3_changesFor x1 x2 σ) fun r1 =>
  if (6 : Int32) ≤ (r1.1) then
    some (0, r1.2)
  else
    some (1, r1.2)
noncomputable def f3_whoFor (x1 : Int32) (x2 : Int32) (x3 : Int32) (σ : HS) : Option (Int32 × HS) :=
  bd (f4_placeOfWord x1 x2 σ) fun r1 =>
  bd (f8_at 46 15 (r1.1) (r1.2)) fun r2 =>
  some ((((r2.1) >>> ((x3 * 3) &&& 31)) &&& 7), r2.2)
noncomputable def f4_begin (b : Nat) (x1 : Int32) (x2 : Int32) (σ : HS) : Option (HS) :=
  some (uI (uI (uI σ b 0 0) b 1 x1) b 2 x2)
noncomputable def f4_addSpeaker (b : Nat) (x1 : Int32) (σ : HS) : Option (HS) :=
  if (5 : Int32) ≤ (σ.1 b 0) then
    some σ
  else
    bd (f8_set (b + 1) 5 (σ.1 b 0) x1 σ) fun r2 =>
    bd (f8_set (b + 2) 5 (r2.1 b 0) 0 r2) fun r3 =>
    some (uI r3 b 0 ((r3.1 b 0) + 1))
noncomputable def f4_addWord (b : Nat) (x1 : Int32) (x2 : Int32) (x3 : Int32) (σ : HS) : Option (HS) :=
  bd (f4_wordsOf b ((σ.1 b 0) - 1) σ) fun r1 =>
  if (((σ.1 b 0) - 1) : Int32) < 0 then
    some (r1.2)
  else
    if (3 : Int32) ≤ (r1.1) then
      some (r1.2)
    else
      bd (f4_placeOfWord ((σ.1 b 0) - 1) (r1.1) (r1.2)) fun r4 =>
      bd (f8_set (b + 3) 15 (r4.1) x1 (r4.2)) fun r5 =>
      bd (f8_set (b + 4) 15 (r4.1) x2 r5) fun r6 =>
      bd (f8_set (b + 5) 15 (r4.1) x3 r6) fun r7 =>
      bd (f8_set (b + 2) 5 ((σ.1 b 0) - 1) ((r1.1) + 1) r7) fun r8 =>
      some r8
noncomputable def f4_ownOf (b : Nat) (x1 : Int32) (x2 : Int32) (σ : HS) : Option (Int32 × HS) :=
  bd (f4_placeOfWord x1 x2 σ) fun r1 =>
  bd (f8_at (b + 4) 15 (r1.1) (r1.2)) fun r2 =>
  some (r2.1, r2.2)
noncomputable def f4_othersOf (b : Nat) (x1 : Int32) (x2 : Int32) (σ : HS) : Option (Int32 × HS) :=
  bd (f4_placeOfWord x1 x2 σ) fun r1 =>
  bd (f8_at (b + 5) 15 (r1.1) (r1.2)) fun r2 =>
  some (r2.1, r2.2)
noncomputable def f4_gainOf_47 (k5 : Int64 × Int32 × HS → Option (Int64 × HS)) (x1 : Int32) (x2 : Int32) (x3 : Int64) (x5 : Int32) (z0 : Int64) (σ : HS) : Option (Int64 × HS) :=
  k5 ((x3 ||| (z0 <<< (((x5 * 8) : Int32).toInt64 &&& 63))), (x5 + 1), σ)
noncomputable def f4_gainOf_5_b (k5 : Int64 × Int32 × HS → Option (Int64 × HS)) (x1 : Int32) (x2 : Int32) (x3 : Int64) (x5 : Int32) (σ : HS) : Option (Int64 × HS) :=
  if ((σ.1 5 0) : Int32) ≤ x5 then
    some (x3, σ)
  else
    if (5 : Int32) ≤ x5 then
      some (x3, σ)
    else
      if (x5 : Int32) = x1 then
        bd (f8_at 9 15 x2 σ) fun r5 =>
        f4_gainOf_47 k5 x1 x2 x3 x5 ((r5.1 : Int32).toInt64) (r5.2)
      else
        bd (f8_at 10 15 x2 σ) fun r4 =>
        f4_gainOf_47 k5 x1 x2 x3 x5 ((r4.1 : Int32).toInt64) (r4.2)
noncomputable def f4_gainOf_5 (x1 : Int32) (x2 : Int32) (p : Int64 × Int32 × HS) : Option (Int64 × HS) :=
  wloop (fun k5 p => f4_gainOf_5_b k5 x1 x2 p.1 p.2.1 p.2.2) fuelN p
noncomputable def f4_gainOf (x1 : Int32) (x2 : Int32) (σ : HS) : Option (Int64 × HS) :=
  f4_gainOf_5 x1 x2 (0, 0, σ)
noncomputable def f4_become_88_b (k88 : Int32 × HS → Option (HS)) (x2 : Int32) (σ : HS) : Option (HS) :=
  if (15 : Int32) ≤ x2 then
    some σ
  else
    bd (f4_gainOf (x2 / 3) x2 σ) fun r2 =>
    bd (f8_setLong 11 15 x2 (r2.1) (r2.2)) fun r3 =>
    k88 ((x2 + 1), r3)
noncomputable def f4_become_88 (p : Int32 × HS) : Option (HS) :=
  wloop (fun k88 p => f4_become_88_b k88 p.1 p.2) fuelN p
noncomputable def f4_become_86 (σ : HS) : Option (HS) :=
  f4_become_88 (0, σ)
noncomputable def f4_become_80 (k14 : Int32 × HS → Option (HS)) (x2 : Int32) (σ : HS) : Option (HS) :=
  k14 ((x2 + 1), σ)
noncomputable def f4_become_38_b (k14 : Int32 × HS → Option (HS)) (k38 : Int32 × HS → Option (HS)) (x2 : Int32) (x3 : Int32) (σ : HS) : Option (HS) :=
  bd (f4_wordsOf 12 x2 σ) fun r1 =>
  if (r1.1 : Int32) ≤ x3 then
    f4_become_80 k14 x2 (r1.2)
  else
    if (3 : Int32) ≤ x3 then
      f4_become_80 k14 x2 (r1.2)
    else
      bd (f4_lengthOf 12 x2 x3 (r1.2)) fun r4 =>
      bd (f4_ownOf 12 x2 x3 (r4.2)) fun r5 =>
      bd (f4_othersOf 12 x2 x3 (r5.2)) fun r6 =>
      bd (f4_addWord 5 (r4.1) (r5.1) (r6.1) (r6.2)) fun r7 =>
      k38 ((x3 + 1), r7)
noncomputable def f4_become_38 (k14 : Int32 × HS → Option (HS)) (x2 : Int32) (p : Int32 × HS) : Option (HS) :=
  wloop (fun k38 p => f4_become_38_b k14 k38 x2 p.1 p.2) fuelN p
noncomputable def f4_become_14_b (k14 : Int32 × HS → Option (HS)) (x2 : Int32) (σ : HS) : Option (HS) :=
  if ((σ.1 12 0) : Int32) ≤ x2 then
    f4_become_86 σ
  else
    if (5 : Int32) ≤ x2 then
      f4_become_86 σ
    else
      bd (f4_kindOf 12 x2 σ) fun r3 =>
      bd (f4_addSpeaker 5 (r3.1) (r3.2)) fun r4 =>
      f4_become_38 k14 x2 (0, r4)
noncomputable def f4_become_14 (p : Int32 × HS) : Option (HS) :=
  wloop (fun k14 p => f4_become_14_b k14 p.1 p.2) fuelN p
noncomputable def f4_become (σ : HS) : Option (HS) :=
  bd (f4_begin 5 (σ.1 12 1) (σ.1 12 2) σ) fun r1 =>
  f4_become_14 (0, r1)
noncomputable def f4_has_16 (σ : HS) : Option (Int32 × HS) :=
  some (0, σ)
noncomputable def f4_has (x1 : Int32) (σ : HS) : Option (Int32 × HS) :=
  if (x1 : Int32) < 0 then
    f4_has_16 σ
  else
    if ((σ.1 5 0) : Int32) ≤ x1 then
      f4_has_16 σ
    else
      some (1, σ)
noncomputable def f4_hasWord_25 (σ : HS) : Option (Int32 × HS) :=
  some (0, σ)
noncomputable def f4_hasWord (x1 : Int32) (x2 : Int32) (σ : HS) : Option (Int32 × HS) :=
  bd (f4_has x1 σ) fun r1 =>
  if (r1.1 : Int32) = 0 then
    f4_hasWord_25 (r1.2)
  else
    if (x2 : Int32) < 0 then
      f4_hasWord_25 (r1.2)
    else
      bd (f4_wordsOf 5 x1 (r1.2)) fun r4 =>
      if (r4.1 : Int32) ≤ x2 then
        f4_hasWord_25 (r4.2)
      else
        some (1, r4.2)
noncomputable def f4_longestWithin_54 (k9 : Int32 × Int32 × Int32 × HS → Option (Int32 × HS)) (x1 : Int32) (x2 : Int32) (x3 : Int32) (x4 : Int32) (x5 : Int32) (σ : HS) : Option (Int32 × HS) :=
  k9 (x3, x4, (x5 + 1), σ)
noncomputable def f4_longestWithin_9_b (k9 : Int32 × Int32 × Int32 × HS → Option (Int32 × HS)) (x1 : Int32) (x2 : Int32) (x3 : Int32) (x4 : Int32) (x5 : Int32) (σ : HS) : Option (Int32 × HS) :=
  bd (f4_wordsOf 5 x1 σ) fun r1 =>
  if (r1.1 : Int32) ≤ x5 then
    some (x3, r1.2)
  else
    if (3 : Int32) ≤ x5 then
      some (x3, r1.2)
    else
      bd (f4_lengthOf 5 x1 x5 (r1.2)) fun r4 =>
      if (x2 : Int32) < (r4.1) then
        f4_longestWithin_54 k9 x1 x2 x3 x4 x5 (r4.2)
      else
        if (r4.1 : Int32) ≤ x4 then
          f4_longestWithin_54 k9 x1 x2 x3 x4 x5 (r4.2)
        else
          f4_longestWithin_54 k9 x1 x2 x5 (r4.1) x5 (r4.2)
noncomputable def f4_longestWithin_9 (x1 : Int32) (x2 : Int32) (p : Int32 × Int32 × Int32 × HS) : Option (Int32 × HS) :=
  wloop (fun k9 p => f4_longestWithin_9_b k9 x1 x2 p.1 p.2.1 p.2.2.1 p.2.2.2) fuelN p
noncomputable def f4_longestWithin (x1 : Int32) (x2 : Int32) (σ : HS) : Option (Int32 × HS) :=
  f4_longestWithin_9 x1 x2 ((-9), 0, 0, σ)
noncomputable def f5_makeForEach_57 (σ : HS) : Option (HS) :=
  bd (f5_settleAll 20 0 σ) fun r1 =>
  some r1
noncomputable def f5_makeForEach_51 (k6 : Int32 × HS → Option (HS)) (x1 : Int32) (σ : HS) : Option (HS) :=
  k6 ((x1 + 1), σ)
noncomputable def f5_makeForEach_22_b (k6 : Int32 × HS → Option (HS)) (k22 : Int32 × HS → Option (HS)) (x1 : Int32) (x2 : Int32) (σ : HS) : Option (HS) :=
  if ((σ.1 5 1) : Int32) < x2 then
    f5_makeForEach_51 k6 x1 σ
  else
    if (100 : Int32) ≤ x2 then
      f5_makeForEach_51 k6 x1 σ
    else
      bd (f5_openState 20 x1 x2 σ) fun r3 =>
      k22 ((x2 + 1), r3)
noncomputable def f5_makeForEach_22 (k6 : Int32 × HS → Option (HS)) (x1 : Int32) (p : Int32 × HS) : Option (HS) :=
  wloop (fun k22 p => f5_makeForEach_22_b k6 k22 x1 p.1 p.2) fuelN p
noncomputable def f5_makeForEach_6_b (k6 : Int32 × HS → Option (HS)) (x1 : Int32) (σ : HS) : Option (HS) :=
  if ((σ.1 22 8) : Int32) ≤ x1 then
    f5_makeForEach_57 σ
  else
    if (6 : Int32) ≤ x1 then
      f5_makeForEach_57 σ
    else
      f5_makeForEach_22 k6 x1 (0, σ)
noncomputable def f5_makeForEach_6 (p : Int32 × HS) : Option (HS) :=
  wloop (fun k6 p => f5_makeForEach_6_b k6 p.1 p.2) fuelN p
noncomputable def f5_makeForEach (σ : HS) : Option (HS) :=
  bd (f5_beginMaking 20 σ) fun r1 =>
  f5_makeForEach_6 (0, r1)
noncomputable def f5_makeForAll (σ : HS) : Option (HS) :=
  bd (f5_openWhatIsReached σ) fun r1 =>
  bd (f5_settleAll 30 1 r1) fun r2 =>
  some r2
noncomputable def f6_isNext_35 (σ : HS) : Option (Int32 × HS) :=
  some (0, σ)
noncomputable def f6_isNext (x1 : Int32) (σ : HS) : Option (Int32 × HS) :=
  if ((σ.1 19 3) : Int32) ≤ (σ.1 19 4) then
    f6_isNext_35 σ
  else
    bd (f8_at 4 400 ((σ.1 19 2) + (σ.1 19 4)) σ) fun r2 =>
    if (r2.1 : Int32) = x1 then
      some (1, r2.2)
    else
      f6_isNext_35 (r2.2)
noncomputable def f6_readSign (x1 : Int32) (σ : HS) : Option (Int32 × HS) :=
  bd (f6_isNext x1 σ) fun r1 =>
  if (r1.1 : Int32) = 0 then
    some (0, (uI (r1.2) 19 5 ((r1.2).1 19 4)))
  else
    some (1, (uI (r1.2) 19 4 (((r1.2).1 19 4) + 1)))
noncomputable def f6_readDigit_40 (σ : HS) : Option (Int32 × HS) :=
  some ((-1), (uI σ 19 5 (σ.1 19 4)))
noncomputable def f6_readDigit (σ : HS) : Option (Int32 × HS) :=
  bd (f8_at 4 400 ((σ.1 19 2) + (σ.1 19 4)) σ) fun r1 =>
  if (((r1.2).1 19 3) : Int32) ≤ ((r1.2).1 19 4) then
    f6_readDigit_40 (r1.2)
  else
    if (r1.1 : Int32) < 48 then
      f6_readDigit_40 (r1.2)
    else
      if (r1.1 : Int32) ≤ 57 then
        some (((r1.1) - 48), (uI (r1.2) 19 4 (((r1.2).1 19 4) + 1)))
      else
        f6_readDigit_40 (r1.2)
noncomputable def f6_readNumber_65 (x2 : Int32) (σ : HS) : Option (Int32 × HS) :=
  some ((-1), (uI σ 19 5 x2))
noncomputable def f6_readNumber (x1 : Int32) (σ : HS) : Option (Int32 × HS) :=
  bd (f6_readDigit σ) fun r1 =>
  if 0 ≤ (r1.1 : Int32) then
    if (r1.1 : Int32) ≤ (x1 / 10) then
      bd (f6_readDigit (r1.2)) fun r4 =>
      if 0 ≤ (r4.1 : Int32) then
        if (((10 * (r1.1)) + (r4.1)) : Int32) < 1 then
          f6_readNumber_65 (σ.1 19 4) (r4.2)
        else
          if (((10 * (r1.1)) + (r4.1)) : Int32) ≤ x1 then
            some (((10 * (r1.1)) + (r4.1)), r4.2)
          else
            f6_readNumber_65 (σ.1 19 4) (r4.2)
      else
        some ((-1), r4.2)
    else
      some ((-1), (uI (r1.2) 19 5 (σ.1 19 4)))
  else
    some ((-1), r1.2)
noncomputable def f6_readJar (σ : HS) : Option (Int32 × HS) :=
  bd (f6_readSign 106 σ) fun r1 =>
  if (r1.1 : Int32) = 0 then
    some (0, r1.2)
  else
    bd (f6_readNumber 99 (r1.2)) fun r3 =>
    if (r3.1 : Int32) < 0 then
      some (0, r3.2)
    else
      bd (f6_readSign 59 (r3.2)) fun r5 =>
      if (r5.1 : Int32) = 0 then
        some (0, r5.2)
      else
        bd (f6_readSign 108 (r5.2)) fun r7 =>
        if (r7.1 : Int32) = 0 then
          some (0, r7.2)
        else
          bd (f6_readDigit (r7.2)) fun r9 =>
          bd (f4_begin 12 (r3.1) (r9.1) (r9.2)) fun r10 =>
          if (r9.1 : Int32) < 0 then
            some (0, r10)
          else
            some (1, r10)
noncomputable def f6_kindOfSign (σ : HS) : Option (Int32 × HS) :=
  bd (f6_isNext 112 σ) fun r1 =>
  if (r1.1 : Int32) = 0 then
    bd (f6_isNext 116 (r1.2)) fun r3 =>
    if (r3.1 : Int32) = 0 then
      bd (f6_isNext 111 (r3.2)) fun r5 =>
      if (r5.1 : Int32) = 0 then
        some ((-1), r5.2)
      else
        some (2, r5.2)
    else
      some (1, r3.2)
  else
    some (0, r1.2)
noncomputable def f6_readWord (σ : HS) : Option (Int32 × HS) :=
  bd (f6_readNumber 60 σ) fun r1 =>
  if 0 ≤ (r1.1 : Int32) then
    bd (f6_readDigit (r1.2)) fun r3 =>
    if 0 ≤ (r3.1 : Int32) then
      bd (f6_readDigit (r3.2)) fun r5 =>
      bd (f4_addWord 12 (r1.1) (r3.1) (r5.1) (r5.2)) fun r6 =>
      if (r5.1 : Int32) < 0 then
        some (0, r6)
      else
        some (1, r6)
    else
      some (0, r3.2)
  else
    some (0, r1.2)
noncomputable def f6_readSpeaker_59 (k39 : Int32 × HS → Option (Int32 × HS)) (x2 : Int32) (σ : HS) : Option (Int32 × HS) :=
  bd (f6_readSign 119 σ) fun r1 =>
  if (r1.1 : Int32) = 0 then
    some (0, r1.2)
  else
    bd (f6_readWord (r1.2)) fun r3 =>
    if (r3.1 : Int32) = 0 then
      some (0, r3.2)
    else
      k39 ((x2 + 1), r3.2)
noncomputable def f6_readSpeaker_39_b (k39 : Int32 × HS → Option (Int32 × HS)) (x2 : Int32) (σ : HS) : Option (Int32 × HS) :=
  if (3 : Int32) ≤ x2 then
    some (1, σ)
  else
    if (x2 : Int32) ≤ 0 then
      f6_readSpeaker_59 k39 x2 σ
    else
      bd (f6_isNext 119 σ) fun r3 =>
      if (r3.1 : Int32) = 0 then
        some (1, r3.2)
      else
        f6_readSpeaker_59 k39 x2 (r3.2)
noncomputable def f6_readSpeaker_39 (p : Int32 × HS) : Option (Int32 × HS) :=
  wloop (fun k39 p => f6_readSpeaker_39_b k39 p.1 p.2) fuelN p
noncomputable def f6_readSpeaker (σ : HS) : Option (Int32 × HS) :=
  bd (f6_kindOfSign σ) fun r1 =>
  if 0 ≤ (r1.1 : Int32) then
    bd (f4_addSpeaker 12 (r1.1) (uI (r1.2) 19 4 (((r1.2).1 19 4) + 1))) fun r3 =>
    f6_readSpeaker_39 (0, r3)
  else
    some (0, (uI (r1.2) 19 5 ((r1.2).1 19 4)))
noncomputable def f6_firstFault_73 (σ : HS) : Option (Int32 × HS) :=
  some ((σ.1 19 5), σ)
noncomputable def f6_firstFault_57 (k34 : Int32 × HS → Option (Int32 × HS)) (x3 : Int32) (σ : HS) : Option (Int32 × HS) :=
  bd (f6_readSign 59 σ) fun r1 =>
  if (r1.1 : Int32) = 0 then
    f6_firstFault_73 (r1.2)
  else
    bd (f6_readSpeaker (r1.2)) fun r3 =>
    if (r3.1 : Int32) = 0 then
      f6_firstFault_73 (r3.2)
    else
      k34 ((x3 + 1), r3.2)
noncomputable def f6_firstFault_34_b (k34 : Int32 × HS → Option (Int32 × HS)) (x3 : Int32) (σ : HS) : Option (Int32 × HS) :=
  if (5 : Int32) ≤ x3 then
    if ((σ.1 19 3) : Int32) ≤ (σ.1 19 4) then
      some ((-1), σ)
    else
      some ((σ.1 19 4), σ)
  else
    if (x3 : Int32) < 2 then
      f6_firstFault_57 k34 x3 σ
    else
      if ((σ.1 19 4) : Int32) < (σ.1 19 3) then
        f6_firstFault_57 k34 x3 σ
      else
        some ((-1), σ)
noncomputable def f6_firstFault_34 (p : Int32 × HS) : Option (Int32 × HS) :=
  wloop (fun k34 p => f6_firstFault_34_b k34 p.1 p.2) fuelN p
noncomputable def f6_firstFault (x1 : Int32) (x2 : Int32) (σ : HS) : Option (Int32 × HS) :=
  bd (f6_readJar (uI (uI (uI (uI σ 19 2 x1) 19 3 x2) 19 4 0) 19 5 (-1))) fun r1 =>
  if (r1.1 : Int32) = 0 then
    some (((r1.2).1 19 5), r1.2)
  else
    f6_firstFault_34 (0, r1.2)
noncomputable def f7_isSheet_13 (σ : HS) : Option (Int32 × HS) :=
  some (0, σ)
noncomputable def f7_isSheet (x0 : Int32) (σ : HS) : Option (Int32 × HS) :=
  if (x0 : Int32) < 0 then
    f7_isSheet_13 σ
  else
    if (4 : Int32) ≤ x0 then
      f7_isSheet_13 σ
    else
      some (1, σ)
noncomputable def f7_isLane_13 (σ : HS) : Option (Int32 × HS) :=
  some (0, σ)
noncomputable def f7_isLane (x0 : Int32) (σ : HS) : Option (Int32 × HS) :=
  if (x0 : Int32) < 0 then
    f7_isLane_13 σ
  else
    if (3 : Int32) ≤ x0 then
      f7_isLane_13 σ
    else
      some (1, σ)
noncomputable def f7_laneOf (x1 : Int32) (σ : HS) : Option (Int32 × HS) :=
  bd (f8_at 2 4 x1 σ) fun r1 =>
  some (r1.1, r1.2)
noncomputable def f7_sizeOf (x1 : Int32) (σ : HS) : Option (Int32 × HS) :=
  bd (f8_at 3 4 x1 σ) fun r1 =>
  some (r1.1, r1.2)
noncomputable def f7_isEmpty (x1 : Int32) (σ : HS) : Option (Int32 × HS) :=
  bd (f7_laneOf x1 σ) fun r1 =>
  if (r1.1 : Int32) = (-1) then
    some (1, r1.2)
  else
    some (0, r1.2)
noncomputable def f7_placeOf (x0 : Int32) (x1 : Int32) (σ : HS) : Option (Int32 × HS) :=
  some (((x0 * 100) + x1), σ)
noncomputable def f7_valueAt (x1 : Int32) (x2 : Int32) (σ : HS) : Option (Int32 × HS) :=
  bd (f7_placeOf x1 x2 σ) fun r1 =>
  bd (f8_at 4 400 (r1.1) (r1.2)) fun r2 =>
  some (r2.1, r2.2)
noncomputable def f7_renew_21_b (k21 : Int32 × HS → Option (HS)) (x1 : Int32) (x4 : Int32) (σ : HS) : Option (HS) :=
  if (100 : Int32) ≤ x4 then
    some σ
  else
    bd (f7_placeOf x1 x4 σ) fun r2 =>
    bd (f8_set 4 400 (r2.1) 0 (r2.2)) fun r3 =>
    k21 ((x4 + 1), r3)
noncomputable def f7_renew_21 (x1 : Int32) (p : Int32 × HS) : Option (HS) :=
  wloop (fun k21 p => f7_renew_21_b k21 x1 p.1 p.2) fuelN p
noncomputable def f7_renew (x1 : Int32) (x2 : Int32) (x3 : Int32) (σ : HS) : Option (HS) :=
  bd (f8_set 2 4 x1 x2 σ) fun r1 =>
  bd (f8_set 3 4 x1 x3 r1) fun r2 =>
  f7_renew_21 x1 (0, r2)
noncomputable def f7_drop_13 (x1 : Int32) (z0 : Int32) (σ : HS) : Option (Int32 × HS) :=
  bd (f8_set 2 4 x1 (-1) σ) fun r1 =>
  bd (f8_set 3 4 x1 0 r1) fun r2 =>
  if (z0 : Int32) = 0 ∨ (z0 : Int32) = 1 then some (z0, r2) else none
noncomputable def f7_drop (x1 : Int32) (σ : HS) : Option (Int32 × HS) :=
  bd (f7_isEmpty x1 σ) fun r1 =>
  if (r1.1 : Int32) = 0 then
    f7_drop_13 x1 1 (r1.2)
  else
    f7_drop_13 x1 0 (r1.2)
noncomputable def f7_cutTo (x0 : Int32) (x1 : Int32) (σ : HS) : Option (Int32 × HS) :=
  if (x0 : Int32) = 0 then
    some ((x1 : Int32).toInt8.toInt32, σ)
  else
    if (x0 : Int32) = 1 then
      some ((x1 : Int32).toInt16.toInt32, σ)
    else
      some (x1, σ)
noncomputable def f7_store (x1 : Int32) (x2 : Int32) (x3 : Int32) (σ : HS) : Option (HS) :=
  bd (f7_placeOf x1 x2 σ) fun r1 =>
  bd (f7_laneOf x1 (r1.2)) fun r2 =>
  bd (f7_cutTo (r2.1) x3 (r2.2)) fun r3 =>
  bd (f8_set 4 400 (r1.1) (r3.1) (r3.2)) fun r4 =>
  some r4
noncomputable def f7_move_47 (k16 : Int32 × HS → Option (HS)) (x1 : Int32) (x2 : Int32) (x3 : Int32) (x4 : Int32) (x5 : Int32) (x6 : Int32) (x7 : Int32) (z0 : Int32) (σ : HS) : Option (HS) :=
  bd (f7_placeOf x3 (x4 + z0) σ) fun r1 =>
  bd (f7_valueAt x1 (x2 + z0) (r1.2)) fun r2 =>
  bd (f8_set 4 400 (r1.1) (r2.1) (r2.2)) fun r3 =>
  k16 ((x7 + 1), r3)
noncomputable def f7_move_16_b (k16 : Int32 × HS → Option (HS)) (x1 : Int32) (x2 : Int32) (x3 : Int32) (x4 : Int32) (x5 : Int32) (x6 : Int32) (x7 : Int32) (σ : HS) : Option (HS) :=
  if (x5 : Int32) ≤ x7 then
    some σ
  else
    if (100 : Int32) ≤ x7 then
      some σ
    else
      if (x6 : Int32) = 0 then
        f7_move_47 k16 x1 x2 x3 x4 x5 x6 x7 x7 σ
      else
        f7_move_47 k16 x1 x2 x3 x4 x5 x6 x7 ((x5 - 1) - x7) σ
noncomputable def f7_move_16 (x1 : Int32) (x2 : Int32) (x3 : Int32) (x4 : Int32) (x5 : Int32) (x6 : Int32) (p : Int32 × HS) : Option (HS) :=
  wloop (fun k16 p => f7_move_16_b k16 x1 x2 x3 x4 x5 x6 p.1 p.2) fuelN p
noncomputable def f7_move_11 (x1 : Int32) (x2 : Int32) (x3 : Int32) (x4 : Int32) (x5 : Int32) (z0 : Int32) (σ : HS) : Option (HS) :=
  f7_move_16 x1 x2 x3 x4 x5 z0 (0, σ)
noncomputable def f7_move (x1 : Int32) (x2 : Int32) (x3 : Int32) (x4 : Int32) (x5 : Int32) (σ : HS) : Option (HS) :=
  if (x4 : Int32) ≤ x2 then
    f7_move_11 x1 x2 x3 x4 x5 0 σ
  else
    f7_move_11 x1 x2 x3 x4 x5 1 σ
noncomputable def f7_hasPart_28 (σ : HS) : Option (Int32 × HS) :=
  some (0, σ)
noncomputable def f7_hasPart (x1 : Int32) (x2 : Int32) (x3 : Int32) (σ : HS) : Option (Int32 × HS) :=
  if (x2 : Int32) < 0 then
    f7_hasPart_28 σ
  else
    bd (f7_sizeOf x1 σ) fun r2 =>
    if (r2.1 : Int32) < x2 then
      f7_hasPart_28 (r2.2)
    else
      bd (f7_sizeOf x1 (r2.2)) fun r4 =>
      if (((r4.1) - x2) : Int32) < x3 then
        f7_hasPart_28 (r4.2)
      else
        some (1, r4.2)
noncomputable def f7_rowRefusal (x1 : Int32) (x2 : Int32) (σ : HS) : Option (Int32 × HS) :=
  bd (f7_isSheet x1 σ) fun r1 =>
  if (r1.1 : Int32) = 0 then
    some ((-1), r1.2)
  else
    bd (f7_isLane x2 (r1.2)) fun r3 =>
    if (r3.1 : Int32) = 0 then
      some ((-2), r3.2)
    else
      bd (f7_isEmpty x1 (r3.2)) fun r5 =>
      if (r5.1 : Int32) = 0 then
        bd (f7_laneOf x1 (r5.2)) fun r7 =>
        if (r7.1 : Int32) = x2 then
          some (0, r7.2)
        else
          some ((-12), r7.2)
      else
        some ((-11), r5.2)
noncomputable def f7_partRefusal (x1 : Int32) (x2 : Int32) (x3 : Int32) (x4 : Int32) (σ : HS) : Option (Int32 × HS) :=
  bd (f7_rowRefusal x1 x2 σ) fun r1 =>
  if (r1.1 : Int32) = 0 then
    if 0 ≤ (x4 : Int32) then
      bd (f7_hasPart x1 x3 x4 (r1.2)) fun r4 =>
      if (r4.1 : Int32) = 0 then
        some ((-13), r4.2)
      else
        some (0, r4.2)
    else
      some ((-14), r1.2)
  else
    some (r1.1, r1.2)
noncomputable def f8_told_31 (x1 : Int32) (z0 : Int32) (σ : HS) : Option (Int32 × HS) :=
  some (x1, (uI σ 0 13 z0))
noncomputable def f8_told_17 (x1 : Int32) (z0 : Int32) (σ : HS) : Option (Int32 × HS) :=
  if (z0 : Int32) = 0 then
    f8_told_31 x1 0 σ
  else
    f8_told_31 x1 ((-10) - x1) σ
noncomputable def f8_told_16 (x1 : Int32) (σ : HS) : Option (Int32 × HS) :=
  f8_told_17 x1 0 σ
noncomputable def f8_told (x1 : Int32) (σ : HS) : Option (Int32 × HS) :=
  if ((-11) : Int32) < x1 then
    f8_told_16 x1 σ
  else
    if (x1 : Int32) < (-14) then
      f8_told_16 x1 σ
    else
      f8_told_17 x1 1 σ
noncomputable def f8_forgetWhatWas (σ : HS) : Option (HS) :=
  bd (f3_forget (uI σ 0 11 0)) fun r1 =>
  bd (f2_clear r1) fun r2 =>
  some r2
noncomputable def f8_council (x1 : Int32) (x2 : Int32) (x3 : Int32) (x4 : Int32) (σ : HS) : Option (Int32 × HS) :=
  bd (f7_partRefusal x1 x2 x3 x4 σ) fun r1 =>
  if (r1.1 : Int32) = 0 then
    bd (f7_placeOf x1 x3 (r1.2)) fun r3 =>
    bd (f6_firstFault (r3.1) x4 (r3.2)) fun r4 =>
    if (r4.1 : Int32) < 0 then
      bd (f4_become (r4.2)) fun r6 =>
      bd (f0_beginAnew r6) fun r7 =>
      bd (f8_forgetWhatWas r7) fun r8 =>
      bd (f8_told (r8.1 5 0) r8) fun r9 =>
      some (r9.1, r9.2)
    else
      bd (f8_told ((-100) - (r4.1)) (r4.2)) fun r10 =>
      some (r10.1, r10.2)
  else
    bd (f8_told (r1.1) (r1.2)) fun r11 =>
    some (r11.1, r11.2)
noncomputable def f8_ofSpeaker (x1 : Int32) (x2 : Int32) (σ : HS) : Option (Int32 × HS) :=
  bd (f4_has x1 σ) fun r1 =>
  if (r1.1 : Int32) = 0 then
    some ((-1), r1.2)
  else
    if (x2 : Int32) = 0 then
      bd (f4_kindOf 5 x1 (r1.2)) fun r4 =>
      some (r4.1, r4.2)
    else
      if (x2 : Int32) = 1 then
        bd (f4_wordsOf 5 x1 (r1.2)) fun r6 =>
        some (r6.1, r6.2)
      else
        if (x2 : Int32) = 2 then
          bd (f0_placeOf x1 (r1.2)) fun r8 =>
          some (r8.1, r8.2)
        else
          some ((-2), r1.2)
noncomputable def f8_ofWord (x1 : Int32) (x2 : Int32) (x3 : Int32) (σ : HS) : Option (Int32 × HS) :=
  bd (f4_hasWord x1 x2 σ) fun r1 =>
  if (r1.1 : Int32) = 0 then
    some ((-1), r1.2)
  else
    if (x3 : Int32) = 0 then
      bd (f4_lengthOf 5 x1 x2 (r1.2)) fun r4 =>
      some (r4.1, r4.2)
    else
      if (x3 : Int32) = 1 then
        bd (f4_ownOf 5 x1 x2 (r1.2)) fun r6 =>
        some (r6.1, r6.2)
      else
        if (x3 : Int32) = 2 then
          bd (f4_othersOf 5 x1 x2 (r1.2)) fun r8 =>
          some (r8.1, r8.2)
        else
          some ((-2), r1.2)
noncomputable def f8_law (x1 : Int32) (σ : HS) : Option (Int32 × HS) :=
  if (x1 : Int32) < 0 then
    some ((-2), σ)
  else
    if (x1 : Int32) < 4 then
      if ((σ.1 5 0) : Int32) = 0 then
        some ((-3), σ)
      else
        bd (f8_forgetWhatWas (uI σ 20 2 x1)) fun r4 =>
        some ((σ.1 20 2), r4)
    else
      some ((-2), σ)
noncomputable def f8_swap (x1 : Int32) (x2 : Int32) (σ : HS) : Option (Int32 × HS) :=
  bd (f4_has x1 σ) fun r1 =>
  if (r1.1 : Int32) = 0 then
    some ((-1), r1.2)
  else
    bd (f4_has x2 (r1.2)) fun r3 =>
    if (r3.1 : Int32) = 0 then
      some ((-1), r3.2)
    else
      bd (f0_placeOf x1 (r3.2)) fun r5 =>
      bd (f0_placeOf x2 (r5.2)) fun r6 =>
      bd (f0_exchange 20 (r5.1) (r6.1) (r6.2)) fun r7 =>
      bd (f8_forgetWhatWas r7) fun r8 =>
      some (1, r8)
noncomputable def f8_areWords_60 (k3 : Int32 × HS → Option (Int32 × HS)) (x1 : Int32) (x2 : Int32) (x3 : Int32) (x4 : Int32) (σ : HS) : Option (Int32 × HS) :=
  k3 ((x4 + 1), σ)
noncomputable def f8_areWords_3_b (k3 : Int32 × HS → Option (Int32 × HS)) (x1 : Int32) (x2 : Int32) (x3 : Int32) (x4 : Int32) (σ : HS) : Option (Int32 × HS) :=
  if (x3 : Int32) ≤ x4 then
    some (1, σ)
  else
    if (6 : Int32) ≤ x4 then
      some (1, σ)
    else
      bd (f7_valueAt x1 (x2 + x4) σ) fun r3 =>
      if (r3.1 : Int32) = (-9) then
        f8_areWords_60 k3 x1 x2 x3 x4 (r3.2)
      else
        bd (f0_whoIn 20 x4 (r3.2)) fun r5 =>
        bd (f4_hasWord (r5.1) (r3.1) (r5.2)) fun r6 =>
        if (r6.1 : Int32) = 0 then
          some (0, r6.2)
        else
          f8_areWords_60 k3 x1 x2 x3 x4 (r6.2)
noncomputable def f8_areWords_3 (x1 : Int32) (x2 : Int32) (x3 : Int32) (p : Int32 × HS) : Option (Int32 × HS) :=
  wloop (fun k3 p => f8_areWords_3_b k3 x1 x2 x3 p.1 p.2) fuelN p
noncomputable def f8_areWords (x1 : Int32) (x2 : Int32) (x3 : Int32) (σ : HS) : Option (Int32 × HS) :=
  f8_areWords_3 x1 x2 x3 (0, σ)
noncomputable def f8_hear_73_b (k73 : Int32 × HS → Option (Int32 × HS)) (x1 : Int32) (x3 : Int32) (x4 : Int32) (x6 : Int32) (σ : HS) : Option (Int32 × HS) :=
  if (x4 : Int32) ≤ x6 then
    some (0, σ)
  else
    if (6 : Int32) ≤ x6 then
      some (0, σ)
    else
      bd (f7_valueAt x1 (x3 + x6) σ) fun r3 =>
      bd (f1_speak 20 (r3.1) (r3.2)) fun r4 =>
      k73 ((x6 + 1), r4)
noncomputable def f8_hear_73 (x1 : Int32) (x3 : Int32) (x4 : Int32) (p : Int32 × HS) : Option (Int32 × HS) :=
  wloop (fun k73 p => f8_hear_73_b k73 x1 x3 x4 p.1 p.2) fuelN p
noncomputable def f8_hear (x1 : Int32) (x2 : Int32) (x3 : Int32) (x4 : Int32) (σ : HS) : Option (Int32 × HS) :=
  bd (f7_partRefusal x1 x2 x3 x4 σ) fun r1 =>
  if (r1.1 : Int32) = 0 then
    if (((r1.2).1 5 0) : Int32) = 0 then
      some ((-3), r1.2)
    else
      bd (f0_turns 20 (r1.2)) fun r4 =>
      if (x4 : Int32) ≤ (r4.1) then
        bd (f8_areWords x1 x3 x4 (r4.2)) fun r6 =>
        if (r6.1 : Int32) = 0 then
          some ((-1), r6.2)
        else
          bd (f1_begin 20 (r6.2)) fun r8 =>
          f8_hear_73 x1 x3 x4 (0, r8)
      else
        some ((-2), r4.2)
  else
    some (r1.1, r1.2)
noncomputable def f8_judge (x1 : Int32) (x2 : Int32) (x3 : Int32) (x4 : Int32) (x5 : Int32) (σ : HS) : Option (Int32 × HS) :=
  bd (f8_hear x1 x2 x3 x4 σ) fun r1 =>
  if (r1.1 : Int32) = 0 then
    if (x5 : Int32) = 0 then
      bd (f8_told ((r1.2).1 27 7) (r1.2)) fun r4 =>
      some (r4.1, r4.2)
    else
      if (x5 : Int32) = 1 then
        bd (f8_told ((r1.2).1 27 8) (r1.2)) fun r6 =>
        some (r6.1, r6.2)
      else
        if (x5 : Int32) = 2 then
          bd (f8_told ((r1.2).1 27 6) (r1.2)) fun r8 =>
          some (r8.1, r8.2)
        else
          bd (f8_told (-2) (r1.2)) fun r9 =>
          some (r9.1, r9.2)
  else
    bd (f8_told (r1.1) (r1.2)) fun r10 =>
    some (r10.1, r10.2)
noncomputable def f8_worthOf_52 (z0 : Int32) (σ : HS) : Option (Int32 × HS) :=
  bd (f8_told z0 σ) fun r1 =>
  some (r1.1, r1.2)
noncomputable def f8_worthOf (x1 : Int32) (x2 : Int32) (x3 : Int32) (x4 : Int32) (x5 : Int32) (σ : HS) : Option (Int32 × HS) :=
  bd (f8_hear x1 x2 x3 x4 σ) fun r1 =>
  if (r1.1 : Int32) = 0 then
    bd (f4_has x5 (r1.2)) fun r3 =>
    if (r3.1 : Int32) = 0 then
      f8_worthOf_52 (-1) (r3.2)
    else
      bd (f8_worthIn ((r3.2).2 27 9) x5 (r3.2)) fun r5 =>
      f8_worthOf_52 (r5.1) (r5.2)
  else
    bd (f8_told (r1.1) (r1.2)) fun r6 =>
    some (r6.1, r6.2)
noncomputable def f8_planAhead (σ : HS) : Option (HS) :=
  if ((σ.1 0 11) : Int32) = 0 then
    bd (f5_makeForEach σ) fun r2 =>
    some (uI r2 0 11 1)
  else
    some σ
noncomputable def f8_choice (x1 : Int32) (x2 : Int32) (σ : HS) : Option (Int32 × HS) :=
  bd (f0_hasTurn x1 σ) fun r1 =>
  if (r1.1 : Int32) = 0 then
    some ((-1), r1.2)
  else
    if (x2 : Int32) < 0 then
      some ((-2), r1.2)
    else
      if (x2 : Int32) ≤ ((r1.2).1 5 1) then
        bd (f8_planAhead (r1.2)) fun r5 =>
        bd (f5_wordAt 20 x1 x2 r5) fun r6 =>
        some (r6.1, r6.2)
      else
        some ((-2), r1.2)
noncomputable def f8_says (x1 : Int32) (σ : HS) : Option (Int32 × HS) :=
  bd (f0_hasTurn x1 σ) fun r1 =>
  if (r1.1 : Int32) = 0 then
    some ((-1), r1.2)
  else
    bd (f8_planAhead (r1.2)) fun r3 =>
    bd (f1_goFreely 20 r3) fun r4 =>
    bd (f1_saidIn 20 x1 r4) fun r5 =>
    some (r5.1, r5.2)
noncomputable def f8_water (x1 : Int32) (σ : HS) : Option (Int32 × HS) :=
  bd (f0_hasTurn x1 σ) fun r1 =>
  if (r1.1 : Int32) = 0 then
    some ((-1), r1.2)
  else
    bd (f8_planAhead (r1.2)) fun r3 =>
    bd (f1_goFreely 20 r3) fun r4 =>
    bd (f1_waterIn x1 r4) fun r5 =>
    some (r5.1, r5.2)
noncomputable def f8_worth (x1 : Int32) (σ : HS) : Option (Int32 × HS) :=
  bd (f4_has x1 σ) fun r1 =>
  if (r1.1 : Int32) = 0 then
    some ((-1), r1.2)
  else
    bd (f8_planAhead (r1.2)) fun r3 =>
    bd (f1_goFreely 20 r3) fun r4 =>
    bd (f8_worthIn (r4.2 27 9) x1 r4) fun r5 =>
    some (r5.1, r5.2)
noncomputable def f8_together_18 (x1 : Int32) (σ : HS) : Option (Int32 × HS) :=
  if ((σ.1 5 0) : Int32) = 0 then
    some ((-3), σ)
  else
    bd (f0_follow σ) fun r2 =>
    bd (f5_makeForAll r2) fun r3 =>
    bd (f1_goFreely 30 r3) fun r4 =>
    if (x1 : Int32) = (-1) then
      bd (f8_worthToAll (r4.2 37 9) r4) fun r7 =>
      some (r7.1, r7.2)
    else
      bd (f1_saidIn 30 x1 r4) fun r6 =>
      some (r6.1, r6.2)
noncomputable def f8_together (x1 : Int32) (σ : HS) : Option (Int32 × HS) :=
  if (x1 : Int32) = (-1) then
    f8_together_18 x1 σ
  else
    bd (f0_hasTurn x1 σ) fun r2 =>
    if (r2.1 : Int32) = 0 then
      some ((-1), r2.2)
    else
      f8_together_18 x1 (r2.2)
noncomputable def f8_areTwo_31 (σ : HS) : Option (Int32 × HS) :=
  some (0, σ)
noncomputable def f8_areTwo (x1 : Int32) (x2 : Int32) (σ : HS) : Option (Int32 × HS) :=
  bd (f4_has x1 σ) fun r1 =>
  if (r1.1 : Int32) = 0 then
    f8_areTwo_31 (r1.2)
  else
    bd (f4_has x2 (r1.2)) fun r3 =>
    if (r3.1 : Int32) = 0 then
      f8_areTwo_31 (r3.2)
    else
      if (x1 : Int32) = x2 then
        f8_areTwo_31 (r3.2)
      else
        some (1, r3.2)
noncomputable def f8_owed (x1 : Int32) (x2 : Int32) (σ : HS) : Option (Int64 × HS) :=
  bd (f8_areTwo x1 x2 σ) fun r1 =>
  if (r1.1 : Int32) = 0 then
    some ((-9223372036854775808), r1.2)
  else
    bd (f0_placeOf x1 (r1.2)) fun r3 =>
    bd (f8_planAhead (r3.2)) fun r4 =>
    bd (f1_goForced 20 (r3.1) (-9) r4) fun r5 =>
    bd (f8_worthIn (r5.2 27 9) x2 r5) fun r6 =>
    bd (f1_waterIn (r3.1) (r6.2)) fun r7 =>
    bd (f4_longestWithin x1 (r7.1) (r7.2)) fun r8 =>
    bd (f1_goForced 20 (r3.1) (r8.1) (r8.2)) fun r9 =>
    bd (f8_worthIn (r9.2 27 9) x2 r9) fun r10 =>
    some ((((r6.1) - (r10.1)) : Int32).toInt64, r10.2)
noncomputable def f8_bargain (x1 : Int32) (x2 : Int32) (σ : HS) : Option (Int64 × HS) :=
  bd (f8_areTwo x1 x2 σ) fun r1 =>
  if (r1.1 : Int32) = 0 then
    some ((-9223372036854775808), r1.2)
  else
    bd (f8_planAhead (r1.2)) fun r3 =>
    bd (f0_placeOf x1 r3) fun r4 =>
    bd (f1_goForced 20 (r4.1) (-9) (r4.2)) fun r5 =>
    bd (f8_worthIn (r5.2 27 9) x1 r5) fun r6 =>
    bd (f8_worthIn ((r6.2).2 27 9) x2 (r6.2)) fun r7 =>
    bd (f1_goFreely 20 (r7.2)) fun r8 =>
    bd (f8_worthIn (r8.2 27 9) x1 r8) fun r9 =>
    bd (f8_worthIn ((r9.2).2 27 9) x2 (r9.2)) fun r10 =>
    some ((((((r6.1) + (r7.1)) - (r9.1)) - (r10.1)) : Int32).toInt64, r10.2)
noncomputable def f8_motion (x1 : Int32) (x2 : Int32) (x3 : Int32) (σ : HS) : Option (Int32 × HS) :=
  bd (f4_hasWord x1 x2 σ) fun r1 =>
  if (r1.1 : Int32) = 0 then
    some ((-1), r1.2)
  else
    if (x3 : Int32) < (-1) then
      some ((-1), r1.2)
    else
      if (x3 : Int32) < ((r1.2).1 5 0) then
        bd (f3_seek (r1.2)) fun r5 =>
        bd (f3_isFound x1 x2 r5) fun r6 =>
        if (r6.1 : Int32) = 0 then
          some ((-9), r6.2)
        else
          if (x3 : Int32) = (-1) then
            bd (f3_changesFor x1 x2 (r6.2)) fun r10 =>
            some (r10.1, r10.2)
          else
            bd (f3_whoFor x1 x2 x3 (r6.2)) fun r9 =>
            some (r9.1, r9.2)
      else
        some ((-1), r1.2)
noncomputable def f8_canSilence_95 (k43 : Int32 × Int32 × HS → Option (Int32 × HS)) (x1 : Int32) (x2 : Int32) (x3 : Int32) (x4 : Int32) (x6 : Int32) (z0 : Int32) (σ : HS) : Option (Int32 × HS) :=
  k43 (z0, (x6 + 1), σ)
noncomputable def f8_canSilence_43_b (k43 : Int32 × Int32 × HS → Option (Int32 × HS)) (x1 : Int32) (x2 : Int32) (x3 : Int32) (x4 : Int32) (x5 : Int32) (x6 : Int32) (σ : HS) : Option (Int32 × HS) :=
  bd (f4_wordsOf 5 x1 σ) fun r1 =>
  if (r1.1 : Int32) ≤ x6 then
    if (x5 : Int32) = 0 ∨ (x5 : Int32) = 1 then some (x5, r1.2) else none
  else
    if (3 : Int32) ≤ x6 then
      if (x5 : Int32) = 0 ∨ (x5 : Int32) = 1 then some (x5, r1.2) else none
    else
      if (x5 : Int32) = 0 then
        bd (f1_goForced 20 x4 x6 (r1.2)) fun r8 =>
        bd (f1_hasSaid x2 x3 r8) fun r9 =>
        if (r9.1 : Int32) = 0 then
          f8_canSilence_95 k43 x1 x2 x3 x4 x6 1 (r9.2)
        else
          f8_canSilence_95 k43 x1 x2 x3 x4 x6 0 (r9.2)
      else
        if (x5 : Int32) = 0 ∨ (x5 : Int32) = 1 then some (x5, r1.2) else none
noncomputable def f8_canSilence_43 (x1 : Int32) (x2 : Int32) (x3 : Int32) (x4 : Int32) (p : Int32 × Int32 × HS) : Option (Int32 × HS) :=
  wloop (fun k43 p => f8_canSilence_43_b k43 x1 x2 x3 x4 p.1 p.2.1 p.2.2) fuelN p
noncomputable def f8_canSilence_38 (x1 : Int32) (x2 : Int32) (x3 : Int32) (x4 : Int32) (z0 : Int32) (σ : HS) : Option (Int32 × HS) :=
  f8_canSilence_43 x1 x2 x3 x4 (z0, 0, σ)
noncomputable def f8_canSilence (x1 : Int32) (x2 : Int32) (x3 : Int32) (σ : HS) : Option (Int32 × HS) :=
  bd (f0_placeOf x1 σ) fun r1 =>
  bd (f1_goForced 20 (r1.1) (-9) (r1.2)) fun r2 =>
  bd (f1_hasSaid x2 x3 r2) fun r3 =>
  if (r3.1 : Int32) = 0 then
    f8_canSilence_38 x1 x2 x3 (r1.1) 1 (r3.2)
  else
    f8_canSilence_38 x1 x2 x3 (r1.1) 0 (r3.2)
noncomputable def f8_dry_65 (k23 : Int32 × Int32 × HS → Option (Int32 × HS)) (x1 : Int32) (x2 : Int32) (x3 : Int32) (x4 : Int32) (σ : HS) : Option (Int32 × HS) :=
  k23 (x3, (x4 + 1), σ)
noncomputable def f8_dry_23_b (k23 : Int32 × Int32 × HS → Option (Int32 × HS)) (x1 : Int32) (x2 : Int32) (x3 : Int32) (x4 : Int32) (σ : HS) : Option (Int32 × HS) :=
  if ((σ.1 5 0) : Int32) ≤ x4 then
    some (x3, σ)
  else
    if (5 : Int32) ≤ x4 then
      some (x3, σ)
    else
      if (x4 : Int32) = x1 then
        f8_dry_65 k23 x1 x2 x3 x4 σ
      else
        bd (f8_canSilence x4 x1 x2 σ) fun r4 =>
        if (r4.1 : Int32) = 0 then
          f8_dry_65 k23 x1 x2 x3 x4 (r4.2)
        else
          f8_dry_65 k23 x1 x2 (x3 ||| (1 <<< (x4 &&& 31))) x4 (r4.2)
noncomputable def f8_dry_23 (x1 : Int32) (x2 : Int32) (p : Int32 × Int32 × HS) : Option (Int32 × HS) :=
  wloop (fun k23 p => f8_dry_23_b k23 x1 x2 p.1 p.2.1 p.2.2) fuelN p
noncomputable def f8_dry (x1 : Int32) (x2 : Int32) (σ : HS) : Option (Int32 × HS) :=
  bd (f4_hasWord x1 x2 σ) fun r1 =>
  if (r1.1 : Int32) = 0 then
    some ((-1), r1.2)
  else
    bd (f8_planAhead (r1.2)) fun r3 =>
    f8_dry_23 x1 x2 (0, 0, r3)
noncomputable def f8_day_81 (σ : HS) : Option (Int32 × HS) :=
  bd (f8_told (-2) σ) fun r1 =>
  some (r1.1, r1.2)
noncomputable def f8_day_151 (x4 : Int32) (σ : HS) : Option (Int32 × HS) :=
  bd (f2_close x4 σ) fun r1 =>
  bd (f8_told (r1.1) (r1.2)) fun r2 =>
  some (r2.1, r2.2)
noncomputable def f8_day_110_b (k110 : Int32 × HS → Option (Int32 × HS)) (x1 : Int32) (x3 : Int32) (x4 : Int32) (x5 : Int32) (x7 : Int32) (σ : HS) : Option (Int32 × HS) :=
  if (x5 : Int32) ≤ x7 then
    f8_day_151 x4 σ
  else
    if (6 : Int32) ≤ x7 then
      f8_day_151 x4 σ
    else
      bd (f7_valueAt x1 (x3 + x7) σ) fun r3 =>
      bd (f2_note x7 (r3.1) (r3.2)) fun r4 =>
      k110 ((x7 + 1), r4)
noncomputable def f8_day_110 (x1 : Int32) (x3 : Int32) (x4 : Int32) (x5 : Int32) (p : Int32 × HS) : Option (Int32 × HS) :=
  wloop (fun k110 p => f8_day_110_b k110 x1 x3 x4 x5 p.1 p.2) fuelN p
noncomputable def f8_day (x1 : Int32) (x2 : Int32) (x3 : Int32) (x4 : Int32) (σ : HS) : Option (Int32 × HS) :=
  bd (f0_turns 20 σ) fun r1 =>
  bd (f7_partRefusal x1 x2 x3 (r1.1) (r1.2)) fun r2 =>
  if (r2.1 : Int32) = 0 then
    if (((r2.2).1 5 0) : Int32) = 0 then
      bd (f8_told (-3) (r2.2)) fun r12 =>
      some (r12.1, r12.2)
    else
      bd (f8_areWords x1 x3 (r1.1) (r2.2)) fun r5 =>
      if (r5.1 : Int32) = 0 then
        bd (f8_told (-1) (r5.2)) fun r11 =>
        some (r11.1, r11.2)
      else
        if (x4 : Int32) < 0 then
          f8_day_81 (r5.2)
        else
          if (x4 : Int32) ≤ 99 then
            if (((r5.2).1 40 3) : Int32) < 6 then
              f8_day_110 x1 x3 x4 (r1.1) (0, r5.2)
            else
              bd (f8_told (-4) (r5.2)) fun r10 =>
              some (r10.1, r10.2)
          else
            f8_day_81 (r5.2)
  else
    bd (f8_told (r2.1) (r2.2)) fun r13 =>
    some (r13.1, r13.2)
noncomputable def f8_back (x1 : Int32) (σ : HS) : Option (Int32 × HS) :=
  if (x1 : Int32) < 0 then
    some ((-2), σ)
  else
    if (x1 : Int32) ≤ (σ.1 40 3) then
      some (((uI σ 40 3 ((σ.1 40 3) - x1)).1 40 3), (uI σ 40 3 ((σ.1 40 3) - x1)))
    else
      some ((-2), σ)
noncomputable def f8_guess_136 (x1 : Int32) (x2 : Int32) (x3 : Int32) (σ : HS) : Option (Int32 × HS) :=
  if (x1 : Int32) = 0 then
    some (x2, σ)
  else
    some (x3, σ)
noncomputable def f8_guess_124 (k59 : Int32 × Int32 × Int32 × HS → Option (Int32 × HS)) (k81 : Int32 × Int32 × Int32 × HS → Option (Int32 × HS)) (x1 : Int32) (x2 : Int32) (x3 : Int32) (x4 : Int32) (x5 : Int32) (σ : HS) : Option (Int32 × HS) :=
  k81 (x2, x3, (x5 + 1), σ)
noncomputable def f8_guess_123 (k59 : Int32 × Int32 × Int32 × HS → Option (Int32 × HS)) (k81 : Int32 × Int32 × Int32 × HS → Option (Int32 × HS)) (x1 : Int32) (x2 : Int32) (x4 : Int32) (x5 : Int32) (z0 : Int32) (σ : HS) : Option (Int32 × HS) :=
  f8_guess_124 k59 k81 x1 x2 z0 x4 x5 σ
noncomputable def f8_guess_81_b (k59 : Int32 × Int32 × Int32 × HS → Option (Int32 × HS)) (k81 : Int32 × Int32 × Int32 × HS → Option (Int32 × HS)) (x1 : Int32) (x2 : Int32) (x3 : Int32) (x4 : Int32) (x5 : Int32) (σ : HS) : Option (Int32 × HS) :=
  if (9 : Int32) < x5 then
    k59 (x2, x3, (x4 + 1), σ)
  else
    bd (f2_fits x4 x5 σ) fun r2 =>
    if (r2.1 : Int32) = 0 then
      f8_guess_124 k59 k81 x1 x2 x3 x4 x5 (r2.2)
    else
      if (x3 : Int32) = (-9) then
        f8_guess_123 k59 k81 x1 (x2 + 1) x4 x5 ((10 * x4) + x5) (r2.2)
      else
        f8_guess_123 k59 k81 x1 (x2 + 1) x4 x5 x3 (r2.2)
noncomputable def f8_guess_81 (k59 : Int32 × Int32 × Int32 × HS → Option (Int32 × HS)) (x1 : Int32) (x4 : Int32) (p : Int32 × Int32 × Int32 × HS) : Option (Int32 × HS) :=
  wloop (fun k81 p => f8_guess_81_b k59 k81 x1 p.1 p.2.1 x4 p.2.2.1 p.2.2.2) fuelN p
noncomputable def f8_guess_59_b (k59 : Int32 × Int32 × Int32 × HS → Option (Int32 × HS)) (x1 : Int32) (x2 : Int32) (x3 : Int32) (x4 : Int32) (σ : HS) : Option (Int32 × HS) :=
  if ((σ.1 40 3) : Int32) < x4 then
    f8_guess_136 x1 x2 x3 σ
  else
    if (6 : Int32) < x4 then
      f8_guess_136 x1 x2 x3 σ
    else
      f8_guess_81 k59 x1 x4 (x2, x3, 0, σ)
noncomputable def f8_guess_59 (x1 : Int32) (p : Int32 × Int32 × Int32 × HS) : Option (Int32 × HS) :=
  wloop (fun k59 p => f8_guess_59_b k59 x1 p.1 p.2.1 p.2.2.1 p.2.2.2) fuelN p
noncomputable def f8_guess_12 (x1 : Int32) (σ : HS) : Option (Int32 × HS) :=
  if ((σ.1 5 0) : Int32) = 0 then
    some ((-3), σ)
  else
    bd (f0_follow σ) fun r2 =>
    bd (f2_compare r2) fun r3 =>
    f8_guess_59 x1 (0, (-9), 0, r3)
noncomputable def f8_guess (x1 : Int32) (σ : HS) : Option (Int32 × HS) :=
  if (x1 : Int32) = 0 then
    f8_guess_12 x1 σ
  else
    if (x1 : Int32) = 1 then
      f8_guess_12 x1 σ
    else
      some ((-2), σ)
noncomputable def f8_worthUnder (x1 : Int32) (σ : HS) : Option (Int32 × HS) :=
  bd (f0_follow σ) fun r1 =>
  bd (f5_makeForFreeDay (uI r1 30 2 x1)) fun r2 =>
  bd (f1_goFreely 30 r2) fun r3 =>
  bd (f8_worthToAll (r3.2 37 9) r3) fun r4 =>
  some (r4.1, r4.2)
noncomputable def f8_byLaw_73 (k47 : Int32 × Int32 × Int32 × HS → Option (Int32 × HS)) (x2 : Int32) (x3 : Int32) (x4 : Int32) (σ : HS) : Option (Int32 × HS) :=
  k47 (x2, x3, (x4 + 1), σ)
noncomputable def f8_byLaw_47_b (k47 : Int32 × Int32 × Int32 × HS → Option (Int32 × HS)) (x2 : Int32) (x3 : Int32) (x4 : Int32) (σ : HS) : Option (Int32 × HS) :=
  if (4 : Int32) ≤ x4 then
    some (x2, σ)
  else
    bd (f8_worthUnder x4 σ) fun r2 =>
    if (r2.1 : Int32) ≤ x3 then
      f8_byLaw_73 k47 x2 x3 x4 (r2.2)
    else
      f8_byLaw_73 k47 x4 (r2.1) x4 (r2.2)
noncomputable def f8_byLaw_47 (p : Int32 × Int32 × Int32 × HS) : Option (Int32 × HS) :=
  wloop (fun k47 p => f8_byLaw_47_b k47 p.1 p.2.1 p.2.2.1 p.2.2.2) fuelN p
noncomputable def f8_byLaw (x1 : Int32) (σ : HS) : Option (Int32 × HS) :=
  if (x1 : Int32) < (-1) then
    some ((-2), σ)
  else
    if (x1 : Int32) < 4 then
      if ((σ.1 5 0) : Int32) = 0 then
        some ((-3), σ)
      else
        if (x1 : Int32) < 0 then
          bd (f8_worthUnder 0 σ) fun r5 =>
          f8_byLaw_47 (0, r5.1, 1, r5.2)
        else
          bd (f8_worthUnder x1 σ) fun r6 =>
          some (r6.1, r6.2)
    else
      some ((-2), σ)
noncomputable def f8_commonPart_7_b (k7 : Int32 × Int32 × Int32 × HS → Option (Int32 × HS)) (x2 : Int32) (x3 : Int32) (x4 : Int32) (σ : HS) : Option (Int32 × HS) :=
  if (99 : Int32) ≤ x4 then
    some (x2, σ)
  else
    if (x3 : Int32) ≤ 0 then
      some (x2, σ)
    else
      if (x3 : Int32) = 0 then none else
      k7 (x3, (x2 - x2 / x3 * x3), (x4 + 1), σ)
noncomputable def f8_commonPart_7 (p : Int32 × Int32 × Int32 × HS) : Option (Int32 × HS) :=
  wloop (fun k7 p => f8_commonPart_7_b k7 p.1 p.2.1 p.2.2.1 p.2.2.2) fuelN p
noncomputable def f8_commonPart (x0 : Int32) (x1 : Int32) (σ : HS) : Option (Int32 × HS) :=
  f8_commonPart_7 (x0, x1, 0, σ)
noncomputable def f8_share_20 (σ : HS) : Option (Int64 × HS) :=
  some ((-9223372036854775808), σ)
noncomputable def f8_share_24 (x1 : Int32) (x2 : Int32) (σ : HS) : Option (Int64 × HS) :=
  bd (f8_planAhead σ) fun r1 =>
  bd (f1_goFreely 20 r1) fun r2 =>
  bd (f1_runAwayBy x1 r2) fun r3 =>
  bd (f8_commonPart (r3.1) ((r3.2).1 5 1) (r3.2)) fun r4 =>
  if 0 < (r4.1 : Int32) then
    if (x2 : Int32) = 0 then
      if (r4.1 : Int32) = 0 then none else
      some ((((r3.1) / (r4.1)) : Int32).toInt64, r4.2)
    else
      if (r4.1 : Int32) = 0 then none else
      some (((((r3.2).1 5 1) / (r4.1)) : Int32).toInt64, r4.2)
  else
    some ((-9223372036854775808), r4.2)
noncomputable def f8_share (x1 : Int32) (x2 : Int32) (σ : HS) : Option (Int64 × HS) :=
  bd (f4_has x1 σ) fun r1 =>
  if (r1.1 : Int32) = 0 then
    f8_share_20 (r1.2)
  else
    if (x2 : Int32) = 0 then
      f8_share_24 x1 x2 (r1.2)
    else
      if (x2 : Int32) = 1 then
        f8_share_24 x1 x2 (r1.2)
      else
        f8_share_20 (r1.2)
noncomputable def f8_sheet_26 (σ : HS) : Option (Int32 × HS) :=
  bd (f8_told (-2) σ) fun r1 =>
  some (r1.1, r1.2)
noncomputable def f8_sheet (x1 : Int32) (x2 : Int32) (x3 : Int32) (σ : HS) : Option (Int32 × HS) :=
  bd (f7_isSheet x1 σ) fun r1 =>
  if (r1.1 : Int32) = 0 then
    bd (f8_told (-1) (r1.2)) fun r10 =>
    some (r10.1, r10.2)
  else
    bd (f7_isLane x2 (r1.2)) fun r3 =>
    if (r3.1 : Int32) = 0 then
      f8_sheet_26 (r3.2)
    else
      if (x3 : Int32) ≤ 100 then
        if 0 ≤ (x3 : Int32) then
          bd (f7_renew x1 x2 x3 (r3.2)) fun r7 =>
          bd (f8_told 1 r7) fun r8 =>
          some (r8.1, r8.2)
        else
          bd (f8_told (-14) (r3.2)) fun r9 =>
          some (r9.1, r9.2)
      else
        f8_sheet_26 (r3.2)
noncomputable def f8_lose (x1 : Int32) (σ : HS) : Option (Int32 × HS) :=
  bd (f7_isSheet x1 σ) fun r1 =>
  if (r1.1 : Int32) = 0 then
    some ((-1), r1.2)
  else
    bd (f7_drop x1 (r1.2)) fun r3 =>
    if (r3.1 : Int32) = 0 then
      some (0, r3.2)
    else
      some (1, r3.2)
noncomputable def f8_put_47 (σ : HS) : Option (Int32 × HS) :=
  bd (f8_told (-13) σ) fun r1 =>
  some (r1.1, r1.2)
noncomputable def f8_put (x1 : Int32) (x2 : Int32) (x3 : Int32) (σ : HS) : Option (Int32 × HS) :=
  bd (f7_isSheet x1 σ) fun r1 =>
  if (r1.1 : Int32) = 0 then
    bd (f8_told (-1) (r1.2)) fun r11 =>
    some (r11.1, r11.2)
  else
    bd (f7_isEmpty x1 (r1.2)) fun r3 =>
    if (r3.1 : Int32) = 0 then
      if (x2 : Int32) < 0 then
        f8_put_47 (r3.2)
      else
        bd (f7_sizeOf x1 (r3.2)) fun r6 =>
        if (x2 : Int32) < (r6.1) then
          bd (f7_store x1 x2 x3 (r6.2)) fun r8 =>
          bd (f8_told 1 r8) fun r9 =>
          some (r9.1, r9.2)
        else
          f8_put_47 (r6.2)
    else
      bd (f8_told (-11) (r3.2)) fun r10 =>
      some (r10.1, r10.2)
noncomputable def f8_cell_36 (x1 : Int32) (x2 : Int32) (x4 : Int32) (σ : HS) : Option (Int64 × HS) :=
  bd (f8_told x4 σ) fun r1 =>
  if (r1.1 : Int32) = 0 then
    bd (f7_valueAt x1 x2 (r1.2)) fun r3 =>
    some ((r3.1 : Int32).toInt64, r3.2)
  else
    some ((-9223372036854775808), r1.2)
noncomputable def f8_cell_32 (x1 : Int32) (x2 : Int32) (σ : HS) : Option (Int64 × HS) :=
  f8_cell_36 x1 x2 (-13) σ
noncomputable def f8_cell (x1 : Int32) (x2 : Int32) (x3 : Int32) (σ : HS) : Option (Int64 × HS) :=
  bd (f7_rowRefusal x1 x3 σ) fun r1 =>
  if (r1.1 : Int32) = 0 then
    if (x2 : Int32) < 0 then
      f8_cell_32 x1 x2 (r1.2)
    else
      bd (f7_sizeOf x1 (r1.2)) fun r4 =>
      if (x2 : Int32) < (r4.1) then
        f8_cell_36 x1 x2 (r1.1) (r4.2)
      else
        f8_cell_32 x1 x2 (r4.2)
  else
    f8_cell_36 x1 x2 (r1.1) (r1.2)
noncomputable def f8_copy_14 (σ : HS) : Option (Int32 × HS) :=
  bd (f8_told (-1) σ) fun r1 =>
  some (r1.1, r1.2)
noncomputable def f8_copy_42 (σ : HS) : Option (Int32 × HS) :=
  bd (f8_told (-11) σ) fun r1 =>
  some (r1.1, r1.2)
noncomputable def f8_copy_109 (σ : HS) : Option (Int32 × HS) :=
  bd (f8_told (-13) σ) fun r1 =>
  some (r1.1, r1.2)
noncomputable def f8_copy (x1 : Int32) (x2 : Int32) (x3 : Int32) (x4 : Int32) (x5 : Int32) (σ : HS) : Option (Int32 × HS) :=
  bd (f7_isSheet x1 σ) fun r1 =>
  if (r1.1 : Int32) = 0 then
    f8_copy_14 (r1.2)
  else
    bd (f7_isSheet x3 (r1.2)) fun r3 =>
    if (r3.1 : Int32) = 0 then
      f8_copy_14 (r3.2)
    else
      bd (f7_isEmpty x1 (r3.2)) fun r5 =>
      if (r5.1 : Int32) = 0 then
        bd (f7_isEmpty x3 (r5.2)) fun r7 =>
        if (r7.1 : Int32) = 0 then
          bd (f7_laneOf x1 (r7.2)) fun r9 =>
          bd (f7_laneOf x3 (r9.2)) fun r10 =>
          if (r9.1 : Int32) = (r10.1) then
            if (x5 : Int32) < 0 then
              f8_copy_109 (r10.2)
            else
              bd (f7_hasPart x1 x2 x5 (r10.2)) fun r13 =>
              if (r13.1 : Int32) = 0 then
                f8_copy_109 (r13.2)
              else
                bd (f7_hasPart x3 x4 x5 (r13.2)) fun r15 =>
                if (r15.1 : Int32) = 0 then
                  f8_copy_109 (r15.2)
                else
                  bd (f7_move x1 x2 x3 x4 x5 (r15.2)) fun r17 =>
                  bd (f8_told x5 r17) fun r18 =>
                  some (r18.1, r18.2)
          else
            bd (f8_told (-12) (r10.2)) fun r19 =>
            some (r19.1, r19.2)
        else
          f8_copy_42 (r7.2)
      else
        f8_copy_42 (r5.2)
noncomputable def f8_leaveTrace (x1 : Int32) (σ : HS) : Option (HS) :=
  some (uI σ 0 12 ((31 * (σ.1 0 12)) + x1))
noncomputable def f8_tellPlain (x1 : Int32) (σ : HS) : Option (Int32 × HS) :=
  bd (f8_leaveTrace 1 σ) fun r1 =>
  bd (f4_wordsOf 5 x1 r1) fun r2 =>
  some (r2.1, r2.2)
noncomputable def f8_tellThrifty (x1 : Int32) (σ : HS) : Option (Int32 × HS) :=
  bd (f8_leaveTrace 2 σ) fun r1 =>
  bd (f8_tellPlain x1 r1) fun r2 =>
  some (((r2.1) + 100), r2.2)
noncomputable def f8_tellOld (x1 : Int32) (σ : HS) : Option (Int32 × HS) :=
  bd (f8_leaveTrace 3 σ) fun r1 =>
  bd (f8_tellThrifty x1 r1) fun r2 =>
  bd (f8_tellPlain x1 (r2.2)) fun r3 =>
  some (((r2.1) + (r3.1)), r3.2)
noncomputable def f8_tell (x1 : Int32) (σ : HS) : Option (Int32 × HS) :=
  bd (f4_has x1 σ) fun r1 =>
  if (r1.1 : Int32) = 0 then
    some ((-1), r1.2)
  else
    bd (f4_kindOf 5 x1 (r1.2)) fun r3 =>
    if (r3.1 : Int32) = 1 then
      bd (f8_tellThrifty x1 (r3.2)) fun r5 =>
      some (r5.1, r5.2)
    else
      if (r3.1 : Int32) = 2 then
        bd (f8_tellOld x1 (r3.2)) fun r7 =>
        some (r7.1, r7.2)
      else
        bd (f8_tellPlain x1 (r3.2)) fun r8 =>
        some (r8.1, r8.2)
noncomputable def f8_call (x1 : Int32) (σ : HS) : Option (Int32 × HS) :=
  bd (f4_has x1 σ) fun r1 =>
  if (r1.1 : Int32) = 0 then
    some ((-1), r1.2)
  else
    bd (f4_kindOf 5 x1 (r1.2)) fun r3 =>
    if (r3.1 : Int32) = 2 then
      bd (f8_leaveTrace 5 (r3.2)) fun r6 =>
      some (90, r6)
    else
      bd (f8_leaveTrace 4 (r3.2)) fun r5 =>
      some (x1, r5)
noncomputable def f8_as_26 (σ : HS) : Option (Int32 × HS) :=
  bd (f8_told (-2) σ) fun r1 =>
  some (r1.1, r1.2)
noncomputable def f8_as_52 (z0 : Int32) (σ : HS) : Option (Int32 × HS) :=
  bd (f8_told z0 σ) fun r1 =>
  some (r1.1, r1.2)
noncomputable def f8_as (x1 : Int32) (x2 : Int32) (σ : HS) : Option (Int32 × HS) :=
  bd (f4_has x1 σ) fun r1 =>
  if (r1.1 : Int32) = 0 then
    bd (f8_told (-1) (r1.2)) fun r7 =>
    some (r7.1, r7.2)
  else
    if (x2 : Int32) < 0 then
      f8_as_26 (r1.2)
    else
      if (x2 : Int32) < 3 then
        bd (f4_kindOf 5 x1 (r1.2)) fun r5 =>
        if (r5.1 : Int32) < x2 then
          f8_as_52 (-12) (r5.2)
        else
          f8_as_52 1 (r5.2)
      else
        f8_as_26 (r1.2)
noncomputable def f8_trace (σ : HS) : Option (Int32 × HS) :=
  some ((σ.1 0 12), σ)
noncomputable def f8_fault (σ : HS) : Option (Int32 × HS) :=
  some ((σ.1 0 13), σ)
noncomputable def f8_many (x1 : Int32) (σ : HS) : Option (Int32 × HS) :=
  if (x1 : Int32) = 0 then
    some ((σ.1 5 0), σ)
  else
    if (x1 : Int32) = 1 then
      some ((σ.1 5 1), σ)
    else
      if (x1 : Int32) = 2 then
        some ((σ.1 20 3), σ)
      else
        if (x1 : Int32) = 3 then
          some ((σ.1 20 2), σ)
        else
          if (x1 : Int32) = 4 then
            bd (f0_turns 20 σ) fun r6 =>
            some (r6.1, r6.2)
          else
            if (x1 : Int32) = 5 then
              some ((σ.1 40 3), σ)
            else
              some ((-2), σ)
noncomputable def f9_in_17 (σ : HS) : Option (Int32 × HS) :=
  some (0, σ)
noncomputable def f9_in (x0 : Int64) (x2 : Int64) (x4 : Int64) (σ : HS) : Option (Int32 × HS) :=
  if (x0 : Int64) < x2 then
    f9_in_17 σ
  else
    if (x4 : Int64) < x0 then
      f9_in_17 σ
    else
      some (1, σ)
noncomputable def f9_lost (σ : HS) : Option (Int64 × HS) :=
  some ((-9223372036854775808), σ)
noncomputable def f9_greater (x0 : Int32) (x1 : Int32) (σ : HS) : Option (Int32 × HS) :=
  if (x0 : Int32) ≤ x1 then
    some (x1, σ)
  else
    some (x0, σ)
noncomputable def f9_told_41 (x5 : Int64) (z0 : Int64) (σ : HS) : Option (Int64 × HS) :=
  if (x5 : Int64) = 0 then none else
  some ((z0 / x5), σ)
noncomputable def f9_told_6_b (k6 : Int64 × Int64 × HS → Option (Int64 × HS)) (x0 : Int64) (x2 : Int64) (x4 : Int32) (x5 : Int64) (x7 : Int64) (σ : HS) : Option (Int64 × HS) :=
  if (x7 : Int64) = 0 then
    if (x4 : Int32) = 0 then
      f9_told_41 x5 x0 σ
    else
      f9_told_41 x5 x2 σ
  else
    if (x7 : Int64) = 0 then none else
    k6 (x7, (x5 - x5 / x7 * x7), σ)
noncomputable def f9_told_6 (x0 : Int64) (x2 : Int64) (x4 : Int32) (p : Int64 × Int64 × HS) : Option (Int64 × HS) :=
  wloop (fun k6 p => f9_told_6_b k6 x0 x2 x4 p.1 p.2.1 p.2.2) fuelN p
noncomputable def f9_told (x0 : Int64) (x2 : Int64) (x4 : Int32) (σ : HS) : Option (Int64 × HS) :=
  f9_told_6 x0 x2 x4 (x0, x2, σ)
noncomputable def f9_refused (x1 : Int32) (σ : HS) : Option (Int32 × HS) :=
  some (x1, (uI σ 0 0 0))
noncomputable def f9_failed (x1 : Int32) (σ : HS) : Option (Int32 × HS) :=
  some (((-10) - x1), (uI σ 0 0 x1))
noncomputable def f9_failedLong (x1 : Int32) (σ : HS) : Option (Int64 × HS) :=
  bd (f9_lost (uI σ 0 0 x1)) fun r1 =>
  some (r1.1, r1.2)
noncomputable def f9_noSheet (x0 : Int32) (σ : HS) : Option (Int32 × HS) :=
  bd (f9_in ((x0 : Int32).toInt64) 0 3 σ) fun r1 =>
  if (r1.1 : Int32) = 0 then
    some (1, r1.2)
  else
    some (0, r1.2)
noncomputable def f9_isBeyond_20 (σ : HS) : Option (Int32 × HS) :=
  some (1, σ)
noncomputable def f9_isBeyond (x0 : Int32) (x1 : Int64) (x3 : Int32) (σ : HS) : Option (Int32 × HS) :=
  if (x0 : Int32) < 0 then
    f9_isBeyond_20 σ
  else
    if (x1 : Int64) < 0 then
      f9_isBeyond_20 σ
    else
      if ((x3 : Int32).toInt64 : Int64) < (((x0 : Int32).toInt64) + x1) then
        f9_isBeyond_20 σ
      else
        some (0, σ)
noncomputable def f9_barred_57 (x1 : Int32) (x3 : Int32) (x4 : Int64) (σ : HS) : Option (Int32 × HS) :=
  if (x1 : Int32) < 0 ∨ 4 ≤ (x1 : Int32).toNatClampNeg then none else
  if 0 ≤ ((σ.1 21 (x1 : Int32).toNatClampNeg) : Int32) then
    if (x4 : Int64) < 0 then
      bd (f9_failed 4 σ) fun r8 =>
      some (r8.1, r8.2)
    else
      if (x1 : Int32) < 0 ∨ 4 ≤ (x1 : Int32).toNatClampNeg then none else
      bd (f9_isBeyond x3 x4 (σ.1 21 (x1 : Int32).toNatClampNeg) σ) fun r5 =>
      if (r5.1 : Int32) = 0 then
        some (0, r5.2)
      else
        bd (f9_failed 3 (r5.2)) fun r7 =>
        some (r7.1, r7.2)
  else
    bd (f9_failed 1 σ) fun r9 =>
    some (r9.1, r9.2)
noncomputable def f9_barred (x1 : Int32) (x2 : Int32) (x3 : Int32) (x4 : Int64) (σ : HS) : Option (Int32 × HS) :=
  bd (f9_noSheet x1 σ) fun r1 =>
  if (r1.1 : Int32) = 0 then
    bd (f9_in ((x2 : Int32).toInt64) 0 2 (r1.2)) fun r3 =>
    if (r3.1 : Int32) = 0 then
      bd (f9_refused (-2) (r3.2)) fun r10 =>
      some (r10.1, r10.2)
    else
      if (x1 : Int32) < 0 ∨ 4 ≤ (x1 : Int32).toNatClampNeg then none else
      if (((r3.2).1 21 (x1 : Int32).toNatClampNeg) : Int32) < 0 then
        f9_barred_57 x1 x3 x4 (r3.2)
      else
        if (x1 : Int32) < 0 ∨ 4 ≤ (x1 : Int32).toNatClampNeg then none else
        if (((r3.2).1 22 (x1 : Int32).toNatClampNeg) : Int32) = x2 then
          f9_barred_57 x1 x3 x4 (r3.2)
        else
          bd (f9_failed 2 (r3.2)) fun r9 =>
          some (r9.1, r9.2)
  else
    bd (f9_refused (-1) (r1.2)) fun r11 =>
    some (r11.1, r11.2)
noncomputable def f9_noSpeaker (x1 : Int32) (σ : HS) : Option (Int32 × HS) :=
  bd (f9_in ((x1 : Int32).toInt64) 0 ((((σ.1 0 1) : Int32).toInt64) - 1) σ) fun r1 =>
  if (r1.1 : Int32) = 0 then
    some (1, r1.2)
  else
    some (0, r1.2)
noncomputable def f9_noWord_26 (σ : HS) : Option (Int32 × HS) :=
  some (1, σ)
noncomputable def f9_noWord (x1 : Int32) (x2 : Int32) (σ : HS) : Option (Int32 × HS) :=
  bd (f9_noSpeaker x1 σ) fun r1 =>
  if (r1.1 : Int32) = 0 then
    if (x1 : Int32) < 0 ∨ 5 ≤ (x1 : Int32).toNatClampNeg then none else
    bd (f9_in ((x2 : Int32).toInt64) 0 (((((r1.2).1 2 (x1 : Int32).toNatClampNeg) : Int32).toInt64) - 1) (r1.2)) fun r4 =>
    if (r4.1 : Int32) = 0 then
      f9_noWord_26 (r4.2)
    else
      some (0, r4.2)
  else
    f9_noWord_26 (r1.2)
noncomputable def f9_codeAt (x1 : Int32) (x2 : Int32) (σ : HS) : Option (Int32 × HS) :=
  if (x2 : Int32) ≤ (σ.1 0 11) then
    some ((-9), σ)
  else
    if ((x1 + (σ.1 0 11)) : Int32) < 0 ∨ 400 ≤ ((x1 + (σ.1 0 11)) : Int32).toNatClampNeg then none else
    some ((σ.1 23 ((x1 + (σ.1 0 11)) : Int32).toNatClampNeg), σ)
noncomputable def f9_takes_45 (x4 : Int32) (z0 : Int32) (z1 : Int32) (σ : HS) : Option (Int32 × HS) :=
  if (x4 : Int32) = 0 ∨ (x4 : Int32) = 1 then some (x4, (uI σ 0 11 (z1 + z0))) else none
noncomputable def f9_takes_28 (z0 : Int32) (σ : HS) : Option (Int32 × HS) :=
  if (z0 : Int32) = 0 then
    f9_takes_45 z0 0 (σ.1 0 11) σ
  else
    f9_takes_45 z0 1 (σ.1 0 11) σ
noncomputable def f9_takes_27 (σ : HS) : Option (Int32 × HS) :=
  f9_takes_28 0 σ
noncomputable def f9_takes (x1 : Int32) (x2 : Int32) (x3 : Int32) (σ : HS) : Option (Int32 × HS) :=
  if (x3 : Int32) ≤ (σ.1 0 11) then
    f9_takes_27 σ
  else
    if ((x2 + (σ.1 0 11)) : Int32) < 0 ∨ 400 ≤ ((x2 + (σ.1 0 11)) : Int32).toNatClampNeg then none else
    if ((σ.1 23 ((x2 + (σ.1 0 11)) : Int32).toNatClampNeg) : Int32) = x1 then
      f9_takes_28 1 σ
    else
      f9_takes_27 σ
noncomputable def f9_figureAt_21 (z0 : Int32) (σ : HS) : Option (Int32 × HS) :=
  bd (f9_in ((z0 : Int32).toInt64) 0 9 σ) fun r1 =>
  if (r1.1 : Int32) = 0 then
    some ((-9), r1.2)
  else
    some (z0, r1.2)
noncomputable def f9_figureAt (x1 : Int32) (x2 : Int32) (x3 : Int32) (σ : HS) : Option (Int32 × HS) :=
  if (x2 : Int32) ≤ x3 then
    f9_figureAt_21 (-9) σ
  else
    if ((x1 + x3) : Int32) < 0 ∨ 400 ≤ ((x1 + x3) : Int32).toNatClampNeg then none else
    f9_figureAt_21 ((σ.1 23 ((x1 + x3) : Int32).toNatClampNeg) - 48) σ
noncomputable def f9_figure_25 (x3 : Int32) (z0 : Int32) (z1 : Int32) (σ : HS) : Option (Int32 × HS) :=
  some (x3, (uI σ 0 11 (z1 + z0)))
noncomputable def f9_figure (x1 : Int32) (x2 : Int32) (σ : HS) : Option (Int32 × HS) :=
  bd (f9_figureAt x1 x2 (σ.1 0 11) σ) fun r1 =>
  if 0 ≤ (r1.1 : Int32) then
    f9_figure_25 (r1.1) 1 ((r1.2).1 0 11) (r1.2)
  else
    f9_figure_25 (r1.1) 0 ((r1.2).1 0 11) (r1.2)
noncomputable def f9_two_95 (x4 : Int32) (x5 : Int32) (x6 : Int32) (z0 : Int32) (z1 : Int32) (σ : HS) : Option (Int32 × HS) :=
  if (x6 : Int32) = 0 then
    some ((-9), (uI σ 0 11 (z1 + z0)))
  else
    some (((10 * x4) + x5), (uI σ 0 11 (z1 + z0)))
noncomputable def f9_two (x1 : Int32) (x2 : Int32) (x3 : Int32) (σ : HS) : Option (Int32 × HS) :=
  bd (f9_figureAt x1 x2 (σ.1 0 11) σ) fun r1 =>
  if (r1.1 : Int32) < 0 then
    some ((-9), r1.2)
  else
    if ((10 * (r1.1)) : Int32) ≤ x3 then
      bd (f9_figureAt x1 x2 (((r1.2).1 0 11) + 1) (r1.2)) fun r4 =>
      if 0 ≤ (r4.1 : Int32) then
        bd (f9_in ((10 * ((r1.1 : Int32).toInt64)) + ((r4.1 : Int32).toInt64)) 1 ((x3 : Int32).toInt64) (r4.2)) fun r6 =>
        if (r6.1 : Int32) = 0 then
          f9_two_95 (r1.1) (r4.1) (r6.1) 0 ((r6.2).1 0 11) (r6.2)
        else
          f9_two_95 (r1.1) (r4.1) (r6.1) 2 ((r6.2).1 0 11) (r6.2)
      else
        some ((-9), (uI (r4.2) 0 11 (((r4.2).1 0 11) + 1)))
    else
      some ((-9), r1.2)
noncomputable def f9_readsWord_110 (x3 : Int32) (x4 : Int32) (z0 : Int32) (z1 : Int32) (σ : HS) : Option (Int32 × HS) :=
  if (z1 : Int32) < 0 ∨ 15 ≤ (z1 : Int32).toNatClampNeg then none else
  if (x3 : Int32) < 0 ∨ 5 ≤ (x3 : Int32).toNatClampNeg then none else
  if (x3 : Int32) < 0 ∨ 5 ≤ (x3 : Int32).toNatClampNeg then none else
  if (x4 : Int32) < 0 ∨ 15 ≤ (x4 : Int32).toNatClampNeg then none else
  if (((uI (uI σ 11 (z1 : Int32).toNatClampNeg z0) 8 (x3 : Int32).toNatClampNeg (((uI σ 11 (z1 : Int32).toNatClampNeg z0).1 8 (x3 : Int32).toNatClampNeg) + 1)).1 11 (x4 : Int32).toNatClampNeg) : Int32) < 0 then
    some (0, (uI (uI σ 11 (z1 : Int32).toNatClampNeg z0) 8 (x3 : Int32).toNatClampNeg (((uI σ 11 (z1 : Int32).toNatClampNeg z0).1 8 (x3 : Int32).toNatClampNeg) + 1)))
  else
    some (1, (uI (uI σ 11 (z1 : Int32).toNatClampNeg z0) 8 (x3 : Int32).toNatClampNeg (((uI σ 11 (z1 : Int32).toNatClampNeg z0).1 8 (x3 : Int32).toNatClampNeg) + 1)))
noncomputable def f9_readsWord_82 (x1 : Int32) (x2 : Int32) (x3 : Int32) (x4 : Int32) (z0 : Int32) (z1 : Int32) (σ : HS) : Option (Int32 × HS) :=
  if (z1 : Int32) < 0 ∨ 15 ≤ (z1 : Int32).toNatClampNeg then none else
  if (x4 : Int32) < 0 ∨ 15 ≤ (x4 : Int32).toNatClampNeg then none else
  if 0 ≤ (((uI σ 10 (z1 : Int32).toNatClampNeg z0).1 10 (x4 : Int32).toNatClampNeg) : Int32) then
    bd (f9_figure x1 x2 (uI σ 10 (z1 : Int32).toNatClampNeg z0)) fun r4 =>
    f9_readsWord_110 x3 x4 (r4.1) x4 (r4.2)
  else
    f9_readsWord_110 x3 x4 (-9) x4 (uI σ 10 (z1 : Int32).toNatClampNeg z0)
noncomputable def f9_readsWord (x1 : Int32) (x2 : Int32) (σ : HS) : Option (Int32 × HS) :=
  if ((σ.1 0 14) : Int32) < 0 ∨ 5 ≤ ((σ.1 0 14) : Int32).toNatClampNeg then none else
  if ((σ.1 8 ((σ.1 0 14) : Int32).toNatClampNeg) : Int32) = 3 then
    some (0, σ)
  else
    bd (f9_takes 119 x1 x2 σ) fun r3 =>
    if (r3.1 : Int32) = 0 then
      some (0, r3.2)
    else
      if ((σ.1 0 14) : Int32) < 0 ∨ 5 ≤ ((σ.1 0 14) : Int32).toNatClampNeg then none else
      bd (f9_two x1 x2 60 (r3.2)) fun r6 =>
      if (((3 * (σ.1 0 14)) + ((r3.2).1 8 ((σ.1 0 14) : Int32).toNatClampNeg)) : Int32) < 0 ∨ 15 ≤ (((3 * (σ.1 0 14)) + ((r3.2).1 8 ((σ.1 0 14) : Int32).toNatClampNeg)) : Int32).toNatClampNeg then none else
      if (((3 * (σ.1 0 14)) + ((r3.2).1 8 ((σ.1 0 14) : Int32).toNatClampNeg)) : Int32) < 0 ∨ 15 ≤ (((3 * (σ.1 0 14)) + ((r3.2).1 8 ((σ.1 0 14) : Int32).toNatClampNeg)) : Int32).toNatClampNeg then none else
      if 0 ≤ (((uI (r6.2) 9 (((3 * (σ.1 0 14)) + ((r3.2).1 8 ((σ.1 0 14) : Int32).toNatClampNeg)) : Int32).toNatClampNeg (r6.1)).1 9 (((3 * (σ.1 0 14)) + ((r3.2).1 8 ((σ.1 0 14) : Int32).toNatClampNeg)) : Int32).toNatClampNeg) : Int32) then
        bd (f9_figure x1 x2 (uI (r6.2) 9 (((3 * (σ.1 0 14)) + ((r3.2).1 8 ((σ.1 0 14) : Int32).toNatClampNeg)) : Int32).toNatClampNeg (r6.1))) fun r10 =>
        f9_readsWord_82 x1 x2 (σ.1 0 14) ((3 * (σ.1 0 14)) + ((r3.2).1 8 ((σ.1 0 14) : Int32).toNatClampNeg)) (r10.1) ((3 * (σ.1 0 14)) + ((r3.2).1 8 ((σ.1 0 14) : Int32).toNatClampNeg)) (r10.2)
      else
        f9_readsWord_82 x1 x2 (σ.1 0 14) ((3 * (σ.1 0 14)) + ((r3.2).1 8 ((σ.1 0 14) : Int32).toNatClampNeg)) (-9) ((3 * (σ.1 0 14)) + ((r3.2).1 8 ((σ.1 0 14) : Int32).toNatClampNeg)) (uI (r6.2) 9 (((3 * (σ.1 0 14)) + ((r3.2).1 8 ((σ.1 0 14) : Int32).toNatClampNeg)) : Int32).toNatClampNeg (r6.1))
noncomputable def f9_readsSpeaker_150 (x5 : Int32) (z0 : Int32) (z1 : Int32) (σ : HS) : Option (Int32 × HS) :=
  if (x5 : Int32) = 0 ∨ (x5 : Int32) = 1 then some (x5, (uI σ 0 14 (z1 + z0))) else none
noncomputable def f9_readsSpeaker_135 (x5 : Int32) (σ : HS) : Option (Int32 × HS) :=
  if (x5 : Int32) = 0 then
    f9_readsSpeaker_150 x5 0 (σ.1 0 14) σ
  else
    f9_readsSpeaker_150 x5 1 (σ.1 0 14) σ
noncomputable def f9_readsSpeaker_108_b (k108 : Int32 × HS → Option (Int32 × HS)) (x1 : Int32) (x2 : Int32) (x5 : Int32) (σ : HS) : Option (Int32 × HS) :=
  if (x5 : Int32) = 0 then
    f9_readsSpeaker_135 x5 σ
  else
    bd (f9_codeAt x1 x2 σ) fun r2 =>
    if (r2.1 : Int32) = 119 then
      bd (f9_readsWord x1 x2 (r2.2)) fun r4 =>
      k108 (r4.1, r4.2)
    else
      f9_readsSpeaker_135 x5 (r2.2)
noncomputable def f9_readsSpeaker_108 (x1 : Int32) (x2 : Int32) (p : Int32 × HS) : Option (Int32 × HS) :=
  wloop (fun k108 p => f9_readsSpeaker_108_b k108 x1 x2 p.1 p.2) fuelN p
noncomputable def f9_readsSpeaker_91 (x1 : Int32) (x2 : Int32) (x4 : Int32) (z0 : Int32) (z1 : Int32) (σ : HS) : Option (Int32 × HS) :=
  if (z1 : Int32) < 0 ∨ 5 ≤ (z1 : Int32).toNatClampNeg then none else
  if (x4 : Int32) < 0 ∨ 5 ≤ (x4 : Int32).toNatClampNeg then none else
  bd (f9_readsWord x1 x2 (uI (uI σ 7 (z1 : Int32).toNatClampNeg z0) 8 (x4 : Int32).toNatClampNeg 0)) fun r3 =>
  f9_readsSpeaker_108 x1 x2 (r3.1, r3.2)
noncomputable def f9_readsSpeaker_48 (x1 : Int32) (x2 : Int32) (x3 : Int32) (σ : HS) : Option (Int32 × HS) :=
  if (x3 : Int32) = 112 then
    f9_readsSpeaker_91 x1 x2 ((uI σ 0 11 ((σ.1 0 11) + 1)).1 0 14) 0 ((uI σ 0 11 ((σ.1 0 11) + 1)).1 0 14) (uI σ 0 11 ((σ.1 0 11) + 1))
  else
    if (x3 : Int32) = 116 then
      f9_readsSpeaker_91 x1 x2 ((uI σ 0 11 ((σ.1 0 11) + 1)).1 0 14) 1 ((uI σ 0 11 ((σ.1 0 11) + 1)).1 0 14) (uI σ 0 11 ((σ.1 0 11) + 1))
    else
      f9_readsSpeaker_91 x1 x2 ((uI σ 0 11 ((σ.1 0 11) + 1)).1 0 14) 2 ((uI σ 0 11 ((σ.1 0 11) + 1)).1 0 14) (uI σ 0 11 ((σ.1 0 11) + 1))
noncomputable def f9_readsSpeaker (x1 : Int32) (x2 : Int32) (σ : HS) : Option (Int32 × HS) :=
  if ((σ.1 0 14) : Int32) = 5 then
    some (0, σ)
  else
    bd (f9_takes 59 x1 x2 σ) fun r2 =>
    if (r2.1 : Int32) = 0 then
      some (0, r2.2)
    else
      bd (f9_codeAt x1 x2 (r2.2)) fun r4 =>
      if (r4.1 : Int32) = 112 then
        f9_readsSpeaker_48 x1 x2 (r4.1) (r4.2)
      else
        if (r4.1 : Int32) = 116 then
          f9_readsSpeaker_48 x1 x2 (r4.1) (r4.2)
        else
          if (r4.1 : Int32) = 111 then
            f9_readsSpeaker_48 x1 x2 (r4.1) (r4.2)
          else
            some (0, r4.2)
noncomputable def f9_readsCouncil_112 (k92 : Int32 × HS → Option (Int32 × HS)) (x1 : Int32) (x2 : Int32) (σ : HS) : Option (Int32 × HS) :=
  bd (f9_readsSpeaker x1 x2 σ) fun r1 =>
  k92 (r1.1, r1.2)
noncomputable def f9_readsCouncil_92_b (k92 : Int32 × HS → Option (Int32 × HS)) (x1 : Int32) (x2 : Int32) (x3 : Int32) (σ : HS) : Option (Int32 × HS) :=
  if (x3 : Int32) = 0 then
    if (x3 : Int32) = 0 ∨ (x3 : Int32) = 1 then some (x3, σ) else none
  else
    if ((σ.1 0 14) : Int32) < 2 then
      f9_readsCouncil_112 k92 x1 x2 σ
    else
      if (x2 : Int32) ≤ (σ.1 0 11) then
        if (x3 : Int32) = 0 ∨ (x3 : Int32) = 1 then some (x3, σ) else none
      else
        f9_readsCouncil_112 k92 x1 x2 σ
noncomputable def f9_readsCouncil_92 (x1 : Int32) (x2 : Int32) (p : Int32 × HS) : Option (Int32 × HS) :=
  wloop (fun k92 p => f9_readsCouncil_92_b k92 x1 x2 p.1 p.2) fuelN p
noncomputable def f9_readsCouncil_91 (x1 : Int32) (x2 : Int32) (z0 : Int32) (σ : HS) : Option (Int32 × HS) :=
  f9_readsCouncil_92 x1 x2 (z0, σ)
noncomputable def f9_readsCouncil_35 (x1 : Int32) (x2 : Int32) (z0 : Int32) (σ : HS) : Option (Int32 × HS) :=
  if (((uI σ 0 12 z0).1 0 12) : Int32) < 0 then
    some (0, (uI σ 0 12 z0))
  else
    bd (f9_takes 59 x1 x2 (uI σ 0 12 z0)) fun r2 =>
    if (r2.1 : Int32) = 0 then
      some (0, r2.2)
    else
      bd (f9_takes 108 x1 x2 (r2.2)) fun r4 =>
      if (r4.1 : Int32) = 0 then
        some (0, r4.2)
      else
        bd (f9_figure x1 x2 (r4.2)) fun r6 =>
        if (((uI (r6.2) 0 13 (r6.1)).1 0 13) : Int32) < 0 then
          f9_readsCouncil_91 x1 x2 0 (uI (r6.2) 0 13 (r6.1))
        else
          f9_readsCouncil_91 x1 x2 1 (uI (r6.2) 0 13 (r6.1))
noncomputable def f9_readsCouncil (x1 : Int32) (x2 : Int32) (σ : HS) : Option (Int32 × HS) :=
  bd (f9_takes 106 x1 x2 (uI (uI σ 0 11 0) 0 14 0)) fun r1 =>
  if (r1.1 : Int32) = 0 then
    f9_readsCouncil_35 x1 x2 (-9) (r1.2)
  else
    bd (f9_two x1 x2 99 (r1.2)) fun r3 =>
    f9_readsCouncil_35 x1 x2 (r3.1) (r3.2)
noncomputable def f9_council_139_b (k139 : Int32 × HS → Option (Int32 × HS)) (x6 : Int32) (σ : HS) : Option (Int32 × HS) :=
  if (15 : Int32) ≤ x6 then
    bd (f9_refused (σ.1 0 1) σ) fun r2 =>
    some (r2.1, r2.2)
  else
    if (x6 : Int32) < 0 ∨ 15 ≤ (x6 : Int32).toNatClampNeg then none else
    if (x6 : Int32) < 0 ∨ 15 ≤ (x6 : Int32).toNatClampNeg then none else
    if (x6 : Int32) < 0 ∨ 15 ≤ (x6 : Int32).toNatClampNeg then none else
    if (x6 : Int32) < 0 ∨ 15 ≤ (x6 : Int32).toNatClampNeg then none else
    if (x6 : Int32) < 0 ∨ 15 ≤ (x6 : Int32).toNatClampNeg then none else
    if (x6 : Int32) < 0 ∨ 15 ≤ (x6 : Int32).toNatClampNeg then none else
    k139 ((x6 + 1), (uI (uI (uI σ 3 (x6 : Int32).toNatClampNeg (σ.1 9 (x6 : Int32).toNatClampNeg)) 4 (x6 : Int32).toNatClampNeg ((uI σ 3 (x6 : Int32).toNatClampNeg (σ.1 9 (x6 : Int32).toNatClampNeg)).1 10 (x6 : Int32).toNatClampNeg)) 5 (x6 : Int32).toNatClampNeg ((uI (uI σ 3 (x6 : Int32).toNatClampNeg (σ.1 9 (x6 : Int32).toNatClampNeg)) 4 (x6 : Int32).toNatClampNeg ((uI σ 3 (x6 : Int32).toNatClampNeg (σ.1 9 (x6 : Int32).toNatClampNeg)).1 10 (x6 : Int32).toNatClampNeg)).1 11 (x6 : Int32).toNatClampNeg)))
noncomputable def f9_council_139 (p : Int32 × HS) : Option (Int32 × HS) :=
  wloop (fun k139 p => f9_council_139_b k139 p.1 p.2) fuelN p
noncomputable def f9_council_84_b (k84 : Int32 × HS → Option (Int32 × HS)) (x6 : Int32) (σ : HS) : Option (Int32 × HS) :=
  if ((σ.1 0 1) : Int32) ≤ x6 then
    f9_council_139 (0, σ)
  else
    if (x6 : Int32) < 0 ∨ 5 ≤ (x6 : Int32).toNatClampNeg then none else
    if (x6 : Int32) < 0 ∨ 5 ≤ (x6 : Int32).toNatClampNeg then none else
    if (x6 : Int32) < 0 ∨ 5 ≤ (x6 : Int32).toNatClampNeg then none else
    if (x6 : Int32) < 0 ∨ 5 ≤ (x6 : Int32).toNatClampNeg then none else
    if (x6 : Int32) < 0 ∨ 5 ≤ (x6 : Int32).toNatClampNeg then none else
    k84 ((x6 + 1), (uI (uI (uI σ 1 (x6 : Int32).toNatClampNeg (σ.1 7 (x6 : Int32).toNatClampNeg)) 2 (x6 : Int32).toNatClampNeg ((uI σ 1 (x6 : Int32).toNatClampNeg (σ.1 7 (x6 : Int32).toNatClampNeg)).1 8 (x6 : Int32).toNatClampNeg)) 6 (x6 : Int32).toNatClampNeg x6))
noncomputable def f9_council_84 (p : Int32 × HS) : Option (Int32 × HS) :=
  wloop (fun k84 p => f9_council_84_b k84 p.1 p.2) fuelN p
noncomputable def f9_council (x1 : Int32) (x2 : Int32) (x3 : Int32) (x4 : Int32) (σ : HS) : Option (Int32 × HS) :=
  bd (f9_barred x1 x2 x3 ((x4 : Int32).toInt64) σ) fun r1 =>
  if 0 ≤ (r1.1 : Int32) then
    bd (f9_readsCouncil ((100 * x1) + x3) x4 (r1.2)) fun r3 =>
    if (r3.1 : Int32) = 0 then
      bd (f9_refused ((-100) - ((r3.2).1 0 11)) (r3.2)) fun r5 =>
      some (r5.1, r5.2)
    else
      f9_council_84 (0, (uI (uI (uI (uI (uI (r3.2) 0 1 ((r3.2).1 0 14)) 0 2 ((uI (r3.2) 0 1 ((r3.2).1 0 14)).1 0 12)) 0 3 ((uI (uI (r3.2) 0 1 ((r3.2).1 0 14)) 0 2 ((uI (r3.2) 0 1 ((r3.2).1 0 14)).1 0 12)).1 0 13)) 0 4 0) 0 29 0))
  else
    some (r1.1, r1.2)
noncomputable def f9_placeOf_27 (k4 : Int32 × Int32 × HS → Option (Int32 × HS)) (x1 : Int32) (x3 : Int32) (z0 : Int32) (σ : HS) : Option (Int32 × HS) :=
  k4 (z0, (x3 + 1), σ)
noncomputable def f9_placeOf_4_b (k4 : Int32 × Int32 × HS → Option (Int32 × HS)) (x1 : Int32) (x2 : Int32) (x3 : Int32) (σ : HS) : Option (Int32 × HS) :=
  if ((σ.1 0 1) : Int32) ≤ x3 then
    some (x2, σ)
  else
    if (x3 : Int32) < 0 ∨ 5 ≤ (x3 : Int32).toNatClampNeg then none else
    if ((σ.1 6 (x3 : Int32).toNatClampNeg) : Int32) = x1 then
      f9_placeOf_27 k4 x1 x3 x3 σ
    else
      f9_placeOf_27 k4 x1 x3 x2 σ
noncomputable def f9_placeOf_4 (x1 : Int32) (p : Int32 × Int32 × HS) : Option (Int32 × HS) :=
  wloop (fun k4 p => f9_placeOf_4_b k4 x1 p.1 p.2.1 p.2.2) fuelN p
noncomputable def f9_placeOf (x1 : Int32) (σ : HS) : Option (Int32 × HS) :=
  f9_placeOf_4 x1 (0, 0, σ)
noncomputable def f9_ofSpeaker (x1 : Int32) (x2 : Int32) (σ : HS) : Option (Int32 × HS) :=
  bd (f9_noSpeaker x1 σ) fun r1 =>
  if (r1.1 : Int32) = 0 then
    if (x2 : Int32) = 0 then
      if (x1 : Int32) < 0 ∨ 5 ≤ (x1 : Int32).toNatClampNeg then none else
      some (((r1.2).1 1 (x1 : Int32).toNatClampNeg), r1.2)
    else
      if (x2 : Int32) = 1 then
        if (x1 : Int32) < 0 ∨ 5 ≤ (x1 : Int32).toNatClampNeg then none else
        some (((r1.2).1 2 (x1 : Int32).toNatClampNeg), r1.2)
      else
        if (x2 : Int32) = 2 then
          bd (f9_placeOf x1 (r1.2)) fun r6 =>
          some (r6.1, r6.2)
        else
          some ((-2), r1.2)
  else
    some ((-1), r1.2)
noncomputable def f9_ofWord (x1 : Int32) (x2 : Int32) (x3 : Int32) (σ : HS) : Option (Int32 × HS) :=
  bd (f9_noWord x1 x2 σ) fun r1 =>
  if (r1.1 : Int32) = 0 then
    if (x3 : Int32) = 0 then
      if (((3 * x1) + x2) : Int32) < 0 ∨ 15 ≤ (((3 * x1) + x2) : Int32).toNatClampNeg then none else
      some (((r1.2).1 3 (((3 * x1) + x2) : Int32).toNatClampNeg), r1.2)
    else
      if (x3 : Int32) = 1 then
        if (((3 * x1) + x2) : Int32) < 0 ∨ 15 ≤ (((3 * x1) + x2) : Int32).toNatClampNeg then none else
        some (((r1.2).1 4 (((3 * x1) + x2) : Int32).toNatClampNeg), r1.2)
      else
        if (x3 : Int32) = 2 then
          if (((3 * x1) + x2) : Int32) < 0 ∨ 15 ≤ (((3 * x1) + x2) : Int32).toNatClampNeg then none else
          some (((r1.2).1 5 (((3 * x1) + x2) : Int32).toNatClampNeg), r1.2)
        else
          some ((-2), r1.2)
  else
    some ((-1), r1.2)
noncomputable def f9_law (x1 : Int32) (σ : HS) : Option (Int32 × HS) :=
  bd (f9_in ((x1 : Int32).toInt64) 0 3 σ) fun r1 =>
  if (r1.1 : Int32) = 0 then
    some ((-2), r1.2)
  else
    if (((r1.2).1 0 1) : Int32) = 0 then
      some ((-3), r1.2)
    else
      some (((r1.2).1 0 4), (uI (uI (r1.2) 0 4 x1) 0 29 0))
noncomputable def f9_swap (x1 : Int32) (x2 : Int32) (σ : HS) : Option (Int32 × HS) :=
  bd (f9_noSpeaker x1 σ) fun r1 =>
  if (r1.1 : Int32) = 0 then
    bd (f9_noSpeaker x2 (r1.2)) fun r3 =>
    if (r3.1 : Int32) = 0 then
      bd (f9_placeOf x1 (r3.2)) fun r5 =>
      bd (f9_placeOf x2 (r5.2)) fun r6 =>
      if (r5.1 : Int32) < 0 ∨ 5 ≤ (r5.1 : Int32).toNatClampNeg then none else
      if (r6.1 : Int32) < 0 ∨ 5 ≤ (r6.1 : Int32).toNatClampNeg then none else
      some (1, (uI (uI (uI (r6.2) 6 (r5.1 : Int32).toNatClampNeg x2) 6 (r6.1 : Int32).toNatClampNeg x1) 0 29 0))
    else
      some ((-1), r3.2)
  else
    some ((-1), r1.2)
noncomputable def f9_turnsNow_28 (z0 : Int32) (z1 : Int32) (σ : HS) : Option (Int32 × HS) :=
  some ((z1 + z0), σ)
noncomputable def f9_turnsNow (σ : HS) : Option (Int32 × HS) :=
  if ((σ.1 0 1) : Int32) = 0 then
    some (0, σ)
  else
    if ((σ.1 0 4) : Int32) = 3 then
      f9_turnsNow_28 1 (σ.1 0 1) σ
    else
      f9_turnsNow_28 0 (σ.1 0 1) σ
noncomputable def f9_speakerOf (x1 : Int32) (σ : HS) : Option (Int32 × HS) :=
  if ((σ.1 0 1) : Int32) = 0 then none else
  if ((x1 - x1 / (σ.1 0 1) * (σ.1 0 1)) : Int32) < 0 ∨ 5 ≤ ((x1 - x1 / (σ.1 0 1) * (σ.1 0 1)) : Int32).toNatClampNeg then none else
  some ((σ.1 6 ((x1 - x1 / (σ.1 0 1) * (σ.1 0 1)) : Int32).toNatClampNeg), σ)
noncomputable def f9_startWater (σ : HS) : Option (Int32 × HS) :=
  if ((σ.1 0 4) : Int32) = 1 then
    if ((σ.1 0 1) : Int32) = 0 then none else
    some (((σ.1 0 2) / (σ.1 0 1)), σ)
  else
    some ((σ.1 0 2), σ)
noncomputable def f9_behind (x1 : Int32) (x2 : Int32) (σ : HS) : Option (Int32 × HS) :=
  if ((σ.1 0 4) : Int32) = 1 then
    bd (f9_startWater σ) fun r4 =>
    some (r4.1, r4.2)
  else
    bd (f9_greater 0 (x1 - x2) σ) fun r2 =>
    if (((r2.2).1 0 4) : Int32) = 2 then
      some (((r2.1) / 2), r2.2)
    else
      some (r2.1, r2.2)
noncomputable def f9_leftBy (x1 : Int32) (x2 : Int32) (x3 : Int32) (σ : HS) : Option (Int32 × HS) :=
  if 0 ≤ (x2 : Int32) then
    if (((3 * x1) + x2) : Int32) < 0 ∨ 15 ≤ (((3 * x1) + x2) : Int32).toNatClampNeg then none else
    if (x3 : Int32) < (σ.1 3 (((3 * x1) + x2) : Int32).toNatClampNeg) then
      some (0, σ)
    else
      if (((3 * x1) + x2) : Int32) < 0 ∨ 15 ≤ (((3 * x1) + x2) : Int32).toNatClampNeg then none else
      some ((x3 - (σ.1 3 (((3 * x1) + x2) : Int32).toNatClampNeg)), σ)
  else
    some (x3, σ)
noncomputable def f9_isHeard_22 (σ : HS) : Option (Int32 × HS) :=
  some (0, σ)
noncomputable def f9_isHeard (x1 : Int32) (x2 : Int32) (x3 : Int32) (σ : HS) : Option (Int32 × HS) :=
  if (x2 : Int32) < 0 then
    f9_isHeard_22 σ
  else
    if (((3 * x1) + x2) : Int32) < 0 ∨ 15 ≤ (((3 * x1) + x2) : Int32).toNatClampNeg then none else
    if (x3 : Int32) < (σ.1 3 (((3 * x1) + x2) : Int32).toNatClampNeg) then
      f9_isHeard_22 σ
    else
      some (1, σ)
noncomputable def f9_worthFor (x1 : Int32) (x2 : Int32) (x3 : Int32) (σ : HS) : Option (Int32 × HS) :=
  if 0 ≤ (x3 : Int32) then
    if (x1 : Int32) = x2 then
      if (((3 * x2) + x3) : Int32) < 0 ∨ 15 ≤ (((3 * x2) + x3) : Int32).toNatClampNeg then none else
      some ((σ.1 4 (((3 * x2) + x3) : Int32).toNatClampNeg), σ)
    else
      if (((3 * x2) + x3) : Int32) < 0 ∨ 15 ≤ (((3 * x2) + x3) : Int32).toNatClampNeg then none else
      some ((σ.1 5 (((3 * x2) + x3) : Int32).toNatClampNeg), σ)
  else
    some (0, σ)
noncomputable def f9_beginDay_2_b (k2 : Int32 × HS → Option (HS)) (x1 : Int32) (σ : HS) : Option (HS) :=
  if (5 : Int32) ≤ x1 then
    bd (f9_startWater (uI (uI σ 0 23 0) 0 24 (-9))) fun r2 =>
    if (0 : Int32) < 0 ∨ 7 ≤ (0 : Int32).toNatClampNeg then none else
    some (uI (r2.2) 13 (0 : Int32).toNatClampNeg (r2.1))
  else
    if (x1 : Int32) < 0 ∨ 5 ≤ (x1 : Int32).toNatClampNeg then none else
    k2 ((x1 + 1), (uI σ 14 (x1 : Int32).toNatClampNeg 0))
noncomputable def f9_beginDay_2 (p : Int32 × HS) : Option (HS) :=
  wloop (fun k2 p => f9_beginDay_2_b k2 p.1 p.2) fuelN p
noncomputable def f9_beginDay (σ : HS) : Option (HS) :=
  f9_beginDay_2 (0, σ)
noncomputable def f9_goTurn_100 (x1 : Int32) (x2 : Int32) (x3 : Int32) (x4 : Int32) (x5 : Int32) (σ : HS) : Option (HS) :=
  bd (f9_leftBy x4 x2 x5 σ) fun r1 =>
  bd (f9_behind (r1.1) x3 (r1.2)) fun r2 =>
  if ((x1 + 1) : Int32) < 0 ∨ 7 ≤ ((x1 + 1) : Int32).toNatClampNeg then none else
  some (uI (r2.2) 13 ((x1 + 1) : Int32).toNatClampNeg (r2.1))
noncomputable def f9_goTurn_47_b (k47 : Int32 × HS → Option (HS)) (x1 : Int32) (x2 : Int32) (x3 : Int32) (x4 : Int32) (x5 : Int32) (x6 : Int32) (σ : HS) : Option (HS) :=
  if ((σ.1 0 1) : Int32) ≤ x6 then
    f9_goTurn_100 x1 x2 x3 x4 x5 σ
  else
    if (x6 : Int32) < 0 ∨ 5 ≤ (x6 : Int32).toNatClampNeg then none else
    bd (f9_worthFor x6 x4 x2 σ) fun r3 =>
    if (x6 : Int32) < 0 ∨ 5 ≤ (x6 : Int32).toNatClampNeg then none else
    k47 ((x6 + 1), (uI (r3.2) 14 (x6 : Int32).toNatClampNeg ((σ.1 14 (x6 : Int32).toNatClampNeg) + (r3.1))))
noncomputable def f9_goTurn_47 (x1 : Int32) (x2 : Int32) (x3 : Int32) (x4 : Int32) (x5 : Int32) (p : Int32 × HS) : Option (HS) :=
  wloop (fun k47 p => f9_goTurn_47_b k47 x1 x2 x3 x4 x5 p.1 p.2) fuelN p
noncomputable def f9_goTurn (x1 : Int32) (x2 : Int32) (x3 : Int32) (σ : HS) : Option (HS) :=
  bd (f9_speakerOf x1 σ) fun r1 =>
  if (x1 : Int32) < 0 ∨ 7 ≤ (x1 : Int32).toNatClampNeg then none else
  if (x1 : Int32) < 0 ∨ 6 ≤ (x1 : Int32).toNatClampNeg then none else
  bd (f9_isHeard (r1.1) x2 ((r1.2).1 13 (x1 : Int32).toNatClampNeg) (uI (r1.2) 12 (x1 : Int32).toNatClampNeg x2)) fun r4 =>
  if (r4.1 : Int32) = 0 then
    if (x2 : Int32) < 0 then
      f9_goTurn_100 x1 x2 x3 (r1.1) ((r1.2).1 13 (x1 : Int32).toNatClampNeg) (r4.2)
    else
      if 0 ≤ (((r4.2).1 0 24) : Int32) then
        f9_goTurn_100 x1 x2 x3 (r1.1) ((r1.2).1 13 (x1 : Int32).toNatClampNeg) (r4.2)
      else
        f9_goTurn_100 x1 x2 x3 (r1.1) ((r1.2).1 13 (x1 : Int32).toNatClampNeg) (uI (r4.2) 0 24 x1)
  else
    f9_goTurn_47 x1 x2 x3 (r1.1) ((r1.2).1 13 (x1 : Int32).toNatClampNeg) (0, (uI (r4.2) 0 23 (((r4.2).1 0 23) + 1)))
noncomputable def f9_areWords_56 (k5 : Int32 × Int32 × HS → Option (Int32 × HS)) (x1 : Int32) (x2 : Int32) (x4 : Int32) (z0 : Int32) (σ : HS) : Option (Int32 × HS) :=
  k5 (z0, (x4 + 1), σ)
noncomputable def f9_areWords_55 (k5 : Int32 × Int32 × HS → Option (Int32 × HS)) (x1 : Int32) (x2 : Int32) (x4 : Int32) (σ : HS) : Option (Int32 × HS) :=
  f9_areWords_56 k5 x1 x2 x4 0 σ
noncomputable def f9_areWords_51 (k5 : Int32 × Int32 × HS → Option (Int32 × HS)) (x1 : Int32) (x2 : Int32) (x4 : Int32) (σ : HS) : Option (Int32 × HS) :=
  f9_areWords_56 k5 x1 x2 x4 1 σ
noncomputable def f9_areWords_5_b (k5 : Int32 × Int32 × HS → Option (Int32 × HS)) (x1 : Int32) (x2 : Int32) (x3 : Int32) (x4 : Int32) (σ : HS) : Option (Int32 × HS) :=
  if (x2 : Int32) ≤ x4 then
    if (x3 : Int32) = 0 ∨ (x3 : Int32) = 1 then some (x3, σ) else none
  else
    if (x3 : Int32) = 0 then
      f9_areWords_55 k5 x1 x2 x4 σ
    else
      if ((x1 + x4) : Int32) < 0 ∨ 400 ≤ ((x1 + x4) : Int32).toNatClampNeg then none else
      if ((σ.1 23 ((x1 + x4) : Int32).toNatClampNeg) : Int32) = (-9) then
        f9_areWords_51 k5 x1 x2 x4 σ
      else
        bd (f9_speakerOf x4 σ) fun r6 =>
        if ((x1 + x4) : Int32) < 0 ∨ 400 ≤ ((x1 + x4) : Int32).toNatClampNeg then none else
        bd (f9_noWord (r6.1) ((r6.2).1 23 ((x1 + x4) : Int32).toNatClampNeg) (r6.2)) fun r8 =>
        if (r8.1 : Int32) = 0 then
          f9_areWords_51 k5 x1 x2 x4 (r8.2)
        else
          f9_areWords_55 k5 x1 x2 x4 (r8.2)
noncomputable def f9_areWords_5 (x1 : Int32) (x2 : Int32) (p : Int32 × Int32 × HS) : Option (Int32 × HS) :=
  wloop (fun k5 p => f9_areWords_5_b k5 x1 x2 p.1 p.2.1 p.2.2) fuelN p
noncomputable def f9_areWords (x1 : Int32) (x2 : Int32) (σ : HS) : Option (Int32 × HS) :=
  f9_areWords_5 x1 x2 (1, 0, σ)
noncomputable def f9_goTold_82_b (k82 : Int32 × HS → Option (Int32 × HS)) (x4 : Int32) (x6 : Int32) (x7 : Int32) (σ : HS) : Option (Int32 × HS) :=
  if (x4 : Int32) ≤ x7 then
    bd (f9_refused 0 σ) fun r2 =>
    some (r2.1, r2.2)
  else
    if ((x6 + x7) : Int32) < 0 ∨ 400 ≤ ((x6 + x7) : Int32).toNatClampNeg then none else
    bd (f9_goTurn x7 (σ.1 23 ((x6 + x7) : Int32).toNatClampNeg) (σ.1 0 3) σ) fun r4 =>
    k82 ((x7 + 1), r4)
noncomputable def f9_goTold_82 (x4 : Int32) (x6 : Int32) (p : Int32 × HS) : Option (Int32 × HS) :=
  wloop (fun k82 p => f9_goTold_82_b k82 x4 x6 p.1 p.2) fuelN p
noncomputable def f9_goTold (x1 : Int32) (x2 : Int32) (x3 : Int32) (x4 : Int32) (σ : HS) : Option (Int32 × HS) :=
  bd (f9_barred x1 x2 x3 ((x4 : Int32).toInt64) σ) fun r1 =>
  if 0 ≤ (r1.1 : Int32) then
    if (((r1.2).1 0 1) : Int32) = 0 then
      bd (f9_refused (-3) (r1.2)) fun r11 =>
      some (r11.1, r11.2)
    else
      bd (f9_turnsNow (r1.2)) fun r4 =>
      if (x4 : Int32) ≤ (r4.1) then
        bd (f9_areWords ((100 * x1) + x3) x4 (r4.2)) fun r6 =>
        if (r6.1 : Int32) = 0 then
          bd (f9_refused (-1) (r6.2)) fun r9 =>
          some (r9.1, r9.2)
        else
          bd (f9_beginDay (r6.2)) fun r8 =>
          f9_goTold_82 x4 ((100 * x1) + x3) (0, r8)
      else
        bd (f9_refused (-2) (r4.2)) fun r10 =>
        some (r10.1, r10.2)
  else
    some (r1.1, r1.2)
noncomputable def f9_judge (x1 : Int32) (x2 : Int32) (x3 : Int32) (x4 : Int32) (x5 : Int32) (σ : HS) : Option (Int32 × HS) :=
  bd (f9_goTold x1 x2 x3 x4 σ) fun r1 =>
  if 0 ≤ (r1.1 : Int32) then
    if (x5 : Int32) = 0 then
      some (((r1.2).1 0 23), r1.2)
    else
      if (x5 : Int32) = 1 then
        some (((r1.2).1 0 24), r1.2)
      else
        if (x5 : Int32) = 2 then
          if (x4 : Int32) < 0 ∨ 7 ≤ (x4 : Int32).toNatClampNeg then none else
          some (((r1.2).1 13 (x4 : Int32).toNatClampNeg), r1.2)
        else
          some ((-2), r1.2)
  else
    some (r1.1, r1.2)
noncomputable def f9_worthOf (x1 : Int32) (x2 : Int32) (x3 : Int32) (x4 : Int32) (x5 : Int32) (σ : HS) : Option (Int32 × HS) :=
  bd (f9_goTold x1 x2 x3 x4 σ) fun r1 =>
  if 0 ≤ (r1.1 : Int32) then
    bd (f9_noSpeaker x5 (r1.2)) fun r3 =>
    if (r3.1 : Int32) = 0 then
      if (x5 : Int32) < 0 ∨ 5 ≤ (x5 : Int32).toNatClampNeg then none else
      some (((r3.2).1 14 (x5 : Int32).toNatClampNeg), r3.2)
    else
      some ((-1), r3.2)
  else
    some (r1.1, r1.2)
noncomputable def f9_valueOf (x1 : Int32) (x2 : Int32) (x3 : Int32) (σ : HS) : Option (Int32 × HS) :=
  if (((((100 * x1) + x2) * 5) + x3) : Int32) < 0 ∨ 3500 ≤ (((((100 * x1) + x2) * 5) + x3) : Int32).toNatClampNeg then none else
  some ((σ.1 16 (((((100 * x1) + x2) * 5) + x3) : Int32).toNatClampNeg), σ)
noncomputable def f9_valueBy_31 (x1 : Int32) (x2 : Int32) (x3 : Int32) (x4 : Int32) (x5 : Int32) (z0 : Int32) (σ : HS) : Option (Int32 × HS) :=
  bd (f9_leftBy x5 x3 x2 σ) fun r1 =>
  bd (f9_behind (r1.1) ((r1.2).1 0 3) (r1.2)) fun r2 =>
  bd (f9_valueOf (x1 + 1) (r2.1) x4 (r2.2)) fun r3 =>
  some ((z0 + (r3.1)), r3.2)
noncomputable def f9_valueBy (x1 : Int32) (x2 : Int32) (x3 : Int32) (x4 : Int32) (σ : HS) : Option (Int32 × HS) :=
  bd (f9_speakerOf x1 σ) fun r1 =>
  bd (f9_isHeard (r1.1) x3 x2 (r1.2)) fun r2 =>
  if (r2.1 : Int32) = 0 then
    f9_valueBy_31 x1 x2 x3 x4 (r1.1) 0 (r2.2)
  else
    bd (f9_worthFor x4 (r1.1) x3 (r2.2)) fun r4 =>
    f9_valueBy_31 x1 x2 x3 x4 (r1.1) (r4.1) (r4.2)
noncomputable def f9_lengthAs (x1 : Int32) (x2 : Int32) (σ : HS) : Option (Int32 × HS) :=
  if 0 ≤ (x2 : Int32) then
    if (((3 * x1) + x2) : Int32) < 0 ∨ 15 ≤ (((3 * x1) + x2) : Int32).toNatClampNeg then none else
    some ((σ.1 3 (((3 * x1) + x2) : Int32).toNatClampNeg), σ)
  else
    some (0, σ)
noncomputable def f9_bestIn_145 (k24 : Int32 × Int32 × Int32 × HS → Option (Int32 × HS)) (x1 : Int32) (x2 : Int32) (x3 : Int32) (x4 : Int32) (x5 : Int32) (x6 : Int32) (σ : HS) : Option (Int32 × HS) :=
  k24 (x4, x5, (x6 + 1), σ)
noncomputable def f9_bestIn_137 (k24 : Int32 × Int32 × Int32 × HS → Option (Int32 × HS)) (x1 : Int32) (x2 : Int32) (x3 : Int32) (x6 : Int32) (x7 : Int32) (σ : HS) : Option (Int32 × HS) :=
  f9_bestIn_145 k24 x1 x2 x3 x6 x7 x6 σ
noncomputable def f9_bestIn_116 (k24 : Int32 × Int32 × Int32 × HS → Option (Int32 × HS)) (x1 : Int32) (x2 : Int32) (x3 : Int32) (x4 : Int32) (x5 : Int32) (x6 : Int32) (x7 : Int32) (z0 : Int32) (σ : HS) : Option (Int32 × HS) :=
  if (x5 : Int32) < x7 then
    f9_bestIn_137 k24 x1 x2 x3 x6 x7 σ
  else
    if (x7 : Int32) = x5 then
      if (z0 : Int32) = 0 then
        f9_bestIn_145 k24 x1 x2 x3 x4 x5 x6 σ
      else
        f9_bestIn_137 k24 x1 x2 x3 x6 x7 σ
    else
      f9_bestIn_145 k24 x1 x2 x3 x4 x5 x6 σ
noncomputable def f9_bestIn_24_b (k24 : Int32 × Int32 × Int32 × HS → Option (Int32 × HS)) (x1 : Int32) (x2 : Int32) (x3 : Int32) (x4 : Int32) (x5 : Int32) (x6 : Int32) (σ : HS) : Option (Int32 × HS) :=
  if (x3 : Int32) < 0 ∨ 5 ≤ (x3 : Int32).toNatClampNeg then none else
  if ((σ.1 2 (x3 : Int32).toNatClampNeg) : Int32) ≤ x6 then
    some (x4, σ)
  else
    if (x3 : Int32) < 0 ∨ 5 ≤ (x3 : Int32).toNatClampNeg then none else
    if (2 : Int32) ≤ (σ.1 1 (x3 : Int32).toNatClampNeg) then
      some (x4, σ)
    else
      bd (f9_isHeard x3 x6 x2 σ) fun r5 =>
      if (r5.1 : Int32) = 0 then
        f9_bestIn_145 k24 x1 x2 x3 x4 x5 x6 (r5.2)
      else
        bd (f9_valueBy x1 x2 x6 x3 (r5.2)) fun r7 =>
        bd (f9_lengthAs x3 x6 (r7.2)) fun r8 =>
        bd (f9_lengthAs x3 x4 (r8.2)) fun r9 =>
        if (x3 : Int32) < 0 ∨ 5 ≤ (x3 : Int32).toNatClampNeg then none else
        if (((r9.2).1 1 (x3 : Int32).toNatClampNeg) : Int32) = 0 then
          if (((r8.1) - (r9.1)) : Int32) ≤ 0 then
            f9_bestIn_116 k24 x1 x2 x3 x4 x5 x6 (r7.1) 0 (r9.2)
          else
            f9_bestIn_116 k24 x1 x2 x3 x4 x5 x6 (r7.1) 1 (r9.2)
        else
          if 0 ≤ (((r8.1) - (r9.1)) : Int32) then
            f9_bestIn_116 k24 x1 x2 x3 x4 x5 x6 (r7.1) 0 (r9.2)
          else
            f9_bestIn_116 k24 x1 x2 x3 x4 x5 x6 (r7.1) 1 (r9.2)
noncomputable def f9_bestIn_24 (x1 : Int32) (x2 : Int32) (x3 : Int32) (p : Int32 × Int32 × Int32 × HS) : Option (Int32 × HS) :=
  wloop (fun k24 p => f9_bestIn_24_b k24 x1 x2 x3 p.1 p.2.1 p.2.2.1 p.2.2.2) fuelN p
noncomputable def f9_bestIn (x1 : Int32) (x2 : Int32) (σ : HS) : Option (Int32 × HS) :=
  bd (f9_speakerOf x1 σ) fun r1 =>
  bd (f9_valueBy x1 x2 (-9) (r1.1) (r1.2)) fun r2 =>
  f9_bestIn_24 x1 x2 (r1.1) ((-9), r2.1, 0, r2.2)
noncomputable def f9_layChoices_75_b (k37 : Int32 × HS → Option (HS)) (k43 : Int32 × HS → Option (HS)) (k75 : Int32 × HS → Option (HS)) (x2 : Int32) (x3 : Int32) (x4 : Int32) (x5 : Int32) (σ : HS) : Option (HS) :=
  if ((σ.1 0 1) : Int32) ≤ x5 then
    k43 ((x3 + 1), σ)
  else
    bd (f9_valueBy x2 x3 x4 x5 σ) fun r2 =>
    if (((((100 * x2) + x3) * 5) + x5) : Int32) < 0 ∨ 3500 ≤ (((((100 * x2) + x3) * 5) + x5) : Int32).toNatClampNeg then none else
    k75 ((x5 + 1), (uI (r2.2) 16 (((((100 * x2) + x3) * 5) + x5) : Int32).toNatClampNeg (r2.1)))
noncomputable def f9_layChoices_75 (k37 : Int32 × HS → Option (HS)) (k43 : Int32 × HS → Option (HS)) (x2 : Int32) (x3 : Int32) (x4 : Int32) (p : Int32 × HS) : Option (HS) :=
  wloop (fun k75 p => f9_layChoices_75_b k37 k43 k75 x2 x3 x4 p.1 p.2) fuelN p
noncomputable def f9_layChoices_43_b (k37 : Int32 × HS → Option (HS)) (k43 : Int32 × HS → Option (HS)) (x2 : Int32) (x3 : Int32) (σ : HS) : Option (HS) :=
  if ((σ.1 0 2) : Int32) < x3 then
    k37 ((x2 + (-1)), σ)
  else
    bd (f9_bestIn x2 x3 σ) fun r2 =>
    if (((100 * x2) + x3) : Int32) < 0 ∨ 600 ≤ (((100 * x2) + x3) : Int32).toNatClampNeg then none else
    f9_layChoices_75 k37 k43 x2 x3 (r2.1) (0, (uI (r2.2) 15 (((100 * x2) + x3) : Int32).toNatClampNeg (r2.1)))
noncomputable def f9_layChoices_43 (k37 : Int32 × HS → Option (HS)) (x2 : Int32) (p : Int32 × HS) : Option (HS) :=
  wloop (fun k43 p => f9_layChoices_43_b k37 k43 x2 p.1 p.2) fuelN p
noncomputable def f9_layChoices_37_b (k37 : Int32 × HS → Option (HS)) (x2 : Int32) (σ : HS) : Option (HS) :=
  if (x2 : Int32) < 0 then
    some σ
  else
    f9_layChoices_43 k37 x2 (0, σ)
noncomputable def f9_layChoices_37 (p : Int32 × HS) : Option (HS) :=
  wloop (fun k37 p => f9_layChoices_37_b k37 p.1 p.2) fuelN p
noncomputable def f9_layChoices_7_b (k7 : Int32 × HS → Option (HS)) (x1 : Int32) (x2 : Int32) (σ : HS) : Option (HS) :=
  if (500 : Int32) ≤ x2 then
    f9_layChoices_37 ((x1 - 1), σ)
  else
    if (((500 * x1) + x2) : Int32) < 0 ∨ 3500 ≤ (((500 * x1) + x2) : Int32).toNatClampNeg then none else
    k7 ((x2 + 1), (uI σ 16 (((500 * x1) + x2) : Int32).toNatClampNeg 0))
noncomputable def f9_layChoices_7 (x1 : Int32) (p : Int32 × HS) : Option (HS) :=
  wloop (fun k7 p => f9_layChoices_7_b k7 x1 p.1 p.2) fuelN p
noncomputable def f9_layChoices (σ : HS) : Option (HS) :=
  bd (f9_turnsNow σ) fun r1 =>
  f9_layChoices_7 (r1.1) (0, r1.2)
noncomputable def f9_goDay_41 (k6 : Int32 × HS → Option (HS)) (x1 : Int32) (x2 : Int32) (x3 : Int32) (z0 : Int32) (z1 : Int32) (σ : HS) : Option (HS) :=
  bd (f9_goTurn z1 z0 (σ.1 0 3) σ) fun r1 =>
  k6 ((x3 + 1), r1)
noncomputable def f9_goDay_6_b (k6 : Int32 × HS → Option (HS)) (x1 : Int32) (x2 : Int32) (x3 : Int32) (σ : HS) : Option (HS) :=
  bd (f9_turnsNow σ) fun r1 =>
  if (r1.1 : Int32) ≤ x3 then
    some (r1.2)
  else
    if (x3 : Int32) = x1 then
      f9_goDay_41 k6 x1 x2 x3 x2 x3 (r1.2)
    else
      if (x3 : Int32) < 0 ∨ 7 ≤ (x3 : Int32).toNatClampNeg then none else
      if (((100 * x3) + ((r1.2).1 13 (x3 : Int32).toNatClampNeg)) : Int32) < 0 ∨ 600 ≤ (((100 * x3) + ((r1.2).1 13 (x3 : Int32).toNatClampNeg)) : Int32).toNatClampNeg then none else
      f9_goDay_41 k6 x1 x2 x3 ((r1.2).1 15 (((100 * x3) + ((r1.2).1 13 (x3 : Int32).toNatClampNeg)) : Int32).toNatClampNeg) x3 (r1.2)
noncomputable def f9_goDay_6 (x1 : Int32) (x2 : Int32) (p : Int32 × HS) : Option (HS) :=
  wloop (fun k6 p => f9_goDay_6_b k6 x1 x2 p.1 p.2) fuelN p
noncomputable def f9_goDay (x1 : Int32) (x2 : Int32) (σ : HS) : Option (HS) :=
  bd (f9_beginDay σ) fun r1 =>
  f9_goDay_6 x1 x2 (0, r1)
noncomputable def f9_goFree (σ : HS) : Option (HS) :=
  bd (f9_layChoices σ) fun r1 =>
  bd (f9_goDay (-7) (-9) r1) fun r2 =>
  some r2
noncomputable def f9_noTurn (x1 : Int32) (σ : HS) : Option (Int32 × HS) :=
  bd (f9_turnsNow σ) fun r1 =>
  bd (f9_in ((x1 : Int32).toInt64) 0 (((r1.1 : Int32).toInt64) - 1) (r1.2)) fun r2 =>
  if (r2.1 : Int32) = 0 then
    some (1, r2.2)
  else
    some (0, r2.2)
noncomputable def f9_choice (x1 : Int32) (x2 : Int32) (σ : HS) : Option (Int32 × HS) :=
  bd (f9_noTurn x1 σ) fun r1 =>
  if (r1.1 : Int32) = 0 then
    bd (f9_in ((x2 : Int32).toInt64) 0 ((((r1.2).1 0 2) : Int32).toInt64) (r1.2)) fun r3 =>
    if (r3.1 : Int32) = 0 then
      some ((-2), r3.2)
    else
      bd (f9_layChoices (r3.2)) fun r5 =>
      if (((100 * x1) + x2) : Int32) < 0 ∨ 600 ≤ (((100 * x1) + x2) : Int32).toNatClampNeg then none else
      some ((r5.1 15 (((100 * x1) + x2) : Int32).toNatClampNeg), r5)
  else
    some ((-1), r1.2)
noncomputable def f9_says (x1 : Int32) (σ : HS) : Option (Int32 × HS) :=
  bd (f9_noTurn x1 σ) fun r1 =>
  if (r1.1 : Int32) = 0 then
    bd (f9_goFree (r1.2)) fun r3 =>
    if (x1 : Int32) < 0 ∨ 6 ≤ (x1 : Int32).toNatClampNeg then none else
    some ((r3.1 12 (x1 : Int32).toNatClampNeg), r3)
  else
    some ((-1), r1.2)
noncomputable def f9_water (x1 : Int32) (σ : HS) : Option (Int32 × HS) :=
  bd (f9_noTurn x1 σ) fun r1 =>
  if (r1.1 : Int32) = 0 then
    bd (f9_goFree (r1.2)) fun r3 =>
    if (x1 : Int32) < 0 ∨ 7 ≤ (x1 : Int32).toNatClampNeg then none else
    some ((r3.1 13 (x1 : Int32).toNatClampNeg), r3)
  else
    some ((-1), r1.2)
noncomputable def f9_worth (x1 : Int32) (σ : HS) : Option (Int32 × HS) :=
  bd (f9_noSpeaker x1 σ) fun r1 =>
  if (r1.1 : Int32) = 0 then
    bd (f9_goFree (r1.2)) fun r3 =>
    if (x1 : Int32) < 0 ∨ 5 ≤ (x1 : Int32).toNatClampNeg then none else
    some ((r3.1 14 (x1 : Int32).toNatClampNeg), r3)
  else
    some ((-1), r1.2)
noncomputable def f9_worthToAll_4_b (k4 : Int32 × Int32 × HS → Option (Int32 × HS)) (x1 : Int32) (x2 : Int32) (σ : HS) : Option (Int32 × HS) :=
  if ((σ.1 0 1) : Int32) ≤ x2 then
    some (x1, σ)
  else
    if (x2 : Int32) < 0 ∨ 5 ≤ (x2 : Int32).toNatClampNeg then none else
    k4 ((x1 + (σ.1 14 (x2 : Int32).toNatClampNeg)), (x2 + 1), σ)
noncomputable def f9_worthToAll_4 (p : Int32 × Int32 × HS) : Option (Int32 × HS) :=
  wloop (fun k4 p => f9_worthToAll_4_b k4 p.1 p.2.1 p.2.2) fuelN p
noncomputable def f9_worthToAll (σ : HS) : Option (Int32 × HS) :=
  f9_worthToAll_4 (0, 0, σ)
noncomputable def f9_goRow_102 (k28 : Int32 × Int32 × HS → Option (Int32 × HS)) (x1 : Int32) (x2 : Int32) (x3 : Int32) (x4 : Int32) (z0 : Int32) (z1 : Int32) (σ : HS) : Option (Int32 × HS) :=
  bd (f9_goTurn z1 z0 (σ.1 0 3) σ) fun r1 =>
  bd (f9_greater 1 (x3 / 4) r1) fun r2 =>
  k28 (r2.1, (x4 + 1), r2.2)
noncomputable def f9_goRow_86 (k28 : Int32 × Int32 × HS → Option (Int32 × HS)) (x1 : Int32) (x2 : Int32) (x3 : Int32) (x4 : Int32) (x5 : Int32) (σ : HS) : Option (Int32 × HS) :=
  if (x5 : Int32) = 3 then
    f9_goRow_102 k28 x1 x2 x3 x4 (-9) x4 σ
  else
    f9_goRow_102 k28 x1 x2 x3 x4 x5 x4 σ
noncomputable def f9_goRow_28_b (k28 : Int32 × Int32 × HS → Option (Int32 × HS)) (x1 : Int32) (x2 : Int32) (x3 : Int32) (x4 : Int32) (σ : HS) : Option (Int32 × HS) :=
  if (x2 : Int32) ≤ x4 then
    some (1, σ)
  else
    if (x3 : Int32) = 0 then none else
    bd (f9_speakerOf x4 σ) fun r3 =>
    if (3 : Int32) ≤ ((x1 / x3) - (x1 / x3) / 4 * 4) then
      f9_goRow_86 k28 x1 x2 x3 x4 ((x1 / x3) - (x1 / x3) / 4 * 4) (r3.2)
    else
      bd (f9_noWord (r3.1) ((x1 / x3) - (x1 / x3) / 4 * 4) (r3.2)) fun r5 =>
      if (r5.1 : Int32) = 0 then
        if (x4 : Int32) < 0 ∨ 7 ≤ (x4 : Int32).toNatClampNeg then none else
        bd (f9_isHeard (r3.1) ((x1 / x3) - (x1 / x3) / 4 * 4) ((r5.2).1 13 (x4 : Int32).toNatClampNeg) (r5.2)) fun r8 =>
        if (r8.1 : Int32) = 0 then
          some (0, r8.2)
        else
          f9_goRow_86 k28 x1 x2 x3 x4 ((x1 / x3) - (x1 / x3) / 4 * 4) (r8.2)
      else
        some (0, r5.2)
noncomputable def f9_goRow_28 (x1 : Int32) (x2 : Int32) (p : Int32 × Int32 × HS) : Option (Int32 × HS) :=
  wloop (fun k28 p => f9_goRow_28_b k28 x1 x2 p.1 p.2.1 p.2.2) fuelN p
noncomputable def f9_goRow_5_b (k5 : Int32 × Int32 × HS → Option (Int32 × HS)) (x1 : Int32) (x2 : Int32) (x3 : Int32) (x4 : Int32) (σ : HS) : Option (Int32 × HS) :=
  if (x2 : Int32) ≤ x4 then
    bd (f9_beginDay σ) fun r2 =>
    f9_goRow_28 x1 x2 (x3, 0, r2)
  else
    k5 ((x3 * 4), (x4 + 1), σ)
noncomputable def f9_goRow_5 (x1 : Int32) (x2 : Int32) (p : Int32 × Int32 × HS) : Option (Int32 × HS) :=
  wloop (fun k5 p => f9_goRow_5_b k5 x1 x2 p.1 p.2.1 p.2.2) fuelN p
noncomputable def f9_goRow (x1 : Int32) (x2 : Int32) (σ : HS) : Option (Int32 × HS) :=
  f9_goRow_5 x1 x2 (1, 1, σ)
noncomputable def f9_together_123 (k63 : Int32 × Int32 × HS → Option (Int32 × HS)) (x1 : Int32) (x2 : Int32) (x3 : Int32) (x4 : Int32) (x5 : Int32) (σ : HS) : Option (Int32 × HS) :=
  k63 (x4, (x5 + 1), σ)
noncomputable def f9_together_97_b (k63 : Int32 × Int32 × HS → Option (Int32 × HS)) (k97 : Int32 × HS → Option (Int32 × HS)) (x1 : Int32) (x2 : Int32) (x3 : Int32) (x4 : Int32) (x5 : Int32) (x6 : Int32) (σ : HS) : Option (Int32 × HS) :=
  if (x2 : Int32) ≤ x6 then
    f9_together_123 k63 x1 x2 x3 x4 x5 σ
  else
    if (x6 : Int32) < 0 ∨ 6 ≤ (x6 : Int32).toNatClampNeg then none else
    if (x6 : Int32) < 0 ∨ 6 ≤ (x6 : Int32).toNatClampNeg then none else
    k97 ((x6 + 1), (uI σ 17 (x6 : Int32).toNatClampNeg (σ.1 12 (x6 : Int32).toNatClampNeg)))
noncomputable def f9_together_97 (k63 : Int32 × Int32 × HS → Option (Int32 × HS)) (x1 : Int32) (x2 : Int32) (x3 : Int32) (x4 : Int32) (x5 : Int32) (p : Int32 × HS) : Option (Int32 × HS) :=
  wloop (fun k97 p => f9_together_97_b k63 k97 x1 x2 x3 x4 x5 p.1 p.2) fuelN p
noncomputable def f9_together_63_b (k63 : Int32 × Int32 × HS → Option (Int32 × HS)) (x1 : Int32) (x2 : Int32) (x3 : Int32) (x4 : Int32) (x5 : Int32) (σ : HS) : Option (Int32 × HS) :=
  if (x3 : Int32) ≤ x5 then
    if 0 ≤ (x1 : Int32) then
      if (x1 : Int32) < 0 ∨ 6 ≤ (x1 : Int32).toNatClampNeg then none else
      some ((σ.1 17 (x1 : Int32).toNatClampNeg), σ)
    else
      some (x4, σ)
  else
    bd (f9_goRow x5 x2 σ) fun r4 =>
    if (r4.1 : Int32) = 0 then
      f9_together_123 k63 x1 x2 x3 x4 x5 (r4.2)
    else
      bd (f9_worthToAll (r4.2)) fun r6 =>
      if (r6.1 : Int32) ≤ x4 then
        f9_together_123 k63 x1 x2 x3 x4 x5 (r6.2)
      else
        bd (f9_worthToAll (r6.2)) fun r8 =>
        f9_together_97 k63 x1 x2 x3 (r8.1) x5 (0, r8.2)
noncomputable def f9_together_63 (x1 : Int32) (x2 : Int32) (x3 : Int32) (p : Int32 × Int32 × HS) : Option (Int32 × HS) :=
  wloop (fun k63 p => f9_together_63_b k63 x1 x2 x3 p.1 p.2.1 p.2.2) fuelN p
noncomputable def f9_together_40_b (k40 : Int32 × Int32 × HS → Option (Int32 × HS)) (x1 : Int32) (x2 : Int32) (x3 : Int32) (x4 : Int32) (σ : HS) : Option (Int32 × HS) :=
  if (x2 : Int32) ≤ x4 then
    f9_together_63 x1 x2 x3 ((-9), 0, σ)
  else
    k40 ((x3 * 4), (x4 + 1), σ)
noncomputable def f9_together_40 (x1 : Int32) (x2 : Int32) (p : Int32 × Int32 × HS) : Option (Int32 × HS) :=
  wloop (fun k40 p => f9_together_40_b k40 x1 x2 p.1 p.2.1 p.2.2) fuelN p
noncomputable def f9_together (x1 : Int32) (σ : HS) : Option (Int32 × HS) :=
  bd (f9_turnsNow σ) fun r1 =>
  bd (f9_in ((x1 : Int32).toInt64) (-1) (((r1.1 : Int32).toInt64) - 1) (r1.2)) fun r2 =>
  if (r2.1 : Int32) = 0 then
    some ((-1), r2.2)
  else
    if (((r2.2).1 0 1) : Int32) = 0 then
      some ((-3), r2.2)
    else
      bd (f9_turnsNow (r2.2)) fun r5 =>
      f9_together_40 x1 (r5.1) (1, 0, r5.2)
noncomputable def f9_longestBy_50 (k6 : Int32 × Int32 × HS → Option (Int32 × HS)) (x1 : Int32) (x2 : Int32) (x4 : Int32) (z0 : Int32) (σ : HS) : Option (Int32 × HS) :=
  k6 (z0, (x4 + 1), σ)
noncomputable def f9_longestBy_49 (k6 : Int32 × Int32 × HS → Option (Int32 × HS)) (x1 : Int32) (x2 : Int32) (x3 : Int32) (x4 : Int32) (σ : HS) : Option (Int32 × HS) :=
  f9_longestBy_50 k6 x1 x2 x4 x3 σ
noncomputable def f9_longestBy_6_b (k6 : Int32 × Int32 × HS → Option (Int32 × HS)) (x1 : Int32) (x2 : Int32) (x3 : Int32) (x4 : Int32) (σ : HS) : Option (Int32 × HS) :=
  if (x1 : Int32) < 0 ∨ 5 ≤ (x1 : Int32).toNatClampNeg then none else
  if ((σ.1 2 (x1 : Int32).toNatClampNeg) : Int32) ≤ x4 then
    some (x3, σ)
  else
    bd (f9_isHeard x1 x4 x2 σ) fun r3 =>
    if (r3.1 : Int32) = 0 then
      f9_longestBy_49 k6 x1 x2 x3 x4 (r3.2)
    else
      bd (f9_lengthAs x1 x4 (r3.2)) fun r5 =>
      bd (f9_lengthAs x1 x3 (r5.2)) fun r6 =>
      if (r5.1 : Int32) ≤ (r6.1) then
        f9_longestBy_49 k6 x1 x2 x3 x4 (r6.2)
      else
        f9_longestBy_50 k6 x1 x2 x4 x4 (r6.2)
noncomputable def f9_longestBy_6 (x1 : Int32) (x2 : Int32) (p : Int32 × Int32 × HS) : Option (Int32 × HS) :=
  wloop (fun k6 p => f9_longestBy_6_b k6 x1 x2 p.1 p.2.1 p.2.2) fuelN p
noncomputable def f9_longestBy (x1 : Int32) (x2 : Int32) (σ : HS) : Option (Int32 × HS) :=
  f9_longestBy_6 x1 x2 ((-9), 0, σ)
noncomputable def f9_owed_21 (σ : HS) : Option (Int64 × HS) :=
  bd (f9_lost σ) fun r1 =>
  some (r1.1, r1.2)
noncomputable def f9_owed (x1 : Int32) (x2 : Int32) (σ : HS) : Option (Int64 × HS) :=
  bd (f9_noSpeaker x1 σ) fun r1 =>
  if (r1.1 : Int32) = 0 then
    bd (f9_noSpeaker x2 (r1.2)) fun r3 =>
    if (r3.1 : Int32) = 0 then
      if (x1 : Int32) = x2 then
        f9_owed_21 (r3.2)
      else
        bd (f9_goFree (r3.2)) fun r6 =>
        bd (f9_placeOf x1 r6) fun r7 =>
        if (r7.1 : Int32) < 0 ∨ 7 ≤ (r7.1 : Int32).toNatClampNeg then none else
        bd (f9_longestBy x1 ((r7.2).1 13 (r7.1 : Int32).toNatClampNeg) (r7.2)) fun r9 =>
        bd (f9_goDay (r7.1) (-9) (r9.2)) fun r10 =>
        if (x2 : Int32) < 0 ∨ 5 ≤ (x2 : Int32).toNatClampNeg then none else
        bd (f9_goDay (r7.1) (r9.1) r10) fun r12 =>
        if (x2 : Int32) < 0 ∨ 5 ≤ (x2 : Int32).toNatClampNeg then none else
        some ((((r10.1 14 (x2 : Int32).toNatClampNeg) - (r12.1 14 (x2 : Int32).toNatClampNeg)) : Int32).toInt64, r12)
    else
      f9_owed_21 (r3.2)
  else
    f9_owed_21 (r1.2)
noncomputable def f9_bargain_21 (σ : HS) : Option (Int64 × HS) :=
  bd (f9_lost σ) fun r1 =>
  some (r1.1, r1.2)
noncomputable def f9_bargain (x1 : Int32) (x2 : Int32) (σ : HS) : Option (Int64 × HS) :=
  bd (f9_noSpeaker x1 σ) fun r1 =>
  if (r1.1 : Int32) = 0 then
    bd (f9_noSpeaker x2 (r1.2)) fun r3 =>
    if (r3.1 : Int32) = 0 then
      if (x1 : Int32) = x2 then
        f9_bargain_21 (r3.2)
      else
        bd (f9_goFree (r3.2)) fun r6 =>
        if (x1 : Int32) < 0 ∨ 5 ≤ (x1 : Int32).toNatClampNeg then none else
        if (x2 : Int32) < 0 ∨ 5 ≤ (x2 : Int32).toNatClampNeg then none else
        bd (f9_placeOf x1 r6) fun r9 =>
        bd (f9_goDay (r9.1) (-9) (r9.2)) fun r10 =>
        if (x1 : Int32) < 0 ∨ 5 ≤ (x1 : Int32).toNatClampNeg then none else
        if (x2 : Int32) < 0 ∨ 5 ≤ (x2 : Int32).toNatClampNeg then none else
        some (((((r10.1 14 (x1 : Int32).toNatClampNeg) + (r10.1 14 (x2 : Int32).toNatClampNeg)) - ((r6.1 14 (x1 : Int32).toNatClampNeg) + (r6.1 14 (x2 : Int32).toNatClampNeg))) : Int32).toInt64, r10)
    else
      f9_bargain_21 (r3.2)
  else
    f9_bargain_21 (r1.2)
noncomputable def f9_isSaid_44 (k5 : Int32 × Int32 × HS → Option (Int32 × HS)) (x1 : Int32) (x2 : Int32) (x4 : Int32) (z0 : Int32) (σ : HS) : Option (Int32 × HS) :=
  k5 (z0, (x4 + 1), σ)
noncomputable def f9_isSaid_39 (k5 : Int32 × Int32 × HS → Option (Int32 × HS)) (x1 : Int32) (x2 : Int32) (x4 : Int32) (σ : HS) : Option (Int32 × HS) :=
  f9_isSaid_44 k5 x1 x2 x4 1 σ
noncomputable def f9_isSaid_43 (k5 : Int32 × Int32 × HS → Option (Int32 × HS)) (x1 : Int32) (x2 : Int32) (x4 : Int32) (σ : HS) : Option (Int32 × HS) :=
  f9_isSaid_44 k5 x1 x2 x4 0 σ
noncomputable def f9_isSaid_5_b (k5 : Int32 × Int32 × HS → Option (Int32 × HS)) (x1 : Int32) (x2 : Int32) (x3 : Int32) (x4 : Int32) (σ : HS) : Option (Int32 × HS) :=
  bd (f9_turnsNow σ) fun r1 =>
  if (r1.1 : Int32) ≤ x4 then
    if (x3 : Int32) = 0 ∨ (x3 : Int32) = 1 then some (x3, r1.2) else none
  else
    if (x3 : Int32) = 0 then
      bd (f9_speakerOf x4 (r1.2)) fun r5 =>
      if (r5.1 : Int32) = x1 then
        if (x4 : Int32) < 0 ∨ 6 ≤ (x4 : Int32).toNatClampNeg then none else
        if (((r5.2).1 12 (x4 : Int32).toNatClampNeg) : Int32) = x2 then
          f9_isSaid_39 k5 x1 x2 x4 (r5.2)
        else
          f9_isSaid_43 k5 x1 x2 x4 (r5.2)
      else
        f9_isSaid_43 k5 x1 x2 x4 (r5.2)
    else
      f9_isSaid_39 k5 x1 x2 x4 (r1.2)
noncomputable def f9_isSaid_5 (x1 : Int32) (x2 : Int32) (p : Int32 × Int32 × HS) : Option (Int32 × HS) :=
  wloop (fun k5 p => f9_isSaid_5_b k5 x1 x2 p.1 p.2.1 p.2.2) fuelN p
noncomputable def f9_isSaid (x1 : Int32) (x2 : Int32) (σ : HS) : Option (Int32 × HS) :=
  f9_isSaid_5 x1 x2 (0, 0, σ)
noncomputable def f9_layOrder_12_b (k12 : Int32 × Int32 × Int32 × HS → Option (Int32 × HS)) (x2 : Int32) (x3 : Int32) (x4 : Int32) (σ : HS) : Option (Int32 × HS) :=
  if (x4 : Int32) < 0 then
    some (1, σ)
  else
    if ((σ.1 0 1) : Int32) = 0 then none else
    if (x4 : Int32) < 0 ∨ 5 ≤ (x4 : Int32).toNatClampNeg then none else
    if (((uI σ 6 (x4 : Int32).toNatClampNeg (x2 - x2 / (σ.1 0 1) * (σ.1 0 1))).1 0 1) : Int32) = 0 then none else
    if (x4 : Int32) < 0 ∨ 5 ≤ (x4 : Int32).toNatClampNeg then none else
    if (((x3 >>> (((uI σ 6 (x4 : Int32).toNatClampNeg (x2 - x2 / (σ.1 0 1) * (σ.1 0 1))).1 6 (x4 : Int32).toNatClampNeg) &&& 31)) &&& 1) : Int32) = 1 then
      some (0, (uI σ 6 (x4 : Int32).toNatClampNeg (x2 - x2 / (σ.1 0 1) * (σ.1 0 1))))
    else
      if (x4 : Int32) < 0 ∨ 5 ≤ (x4 : Int32).toNatClampNeg then none else
      k12 ((x2 / ((uI σ 6 (x4 : Int32).toNatClampNeg (x2 - x2 / (σ.1 0 1) * (σ.1 0 1))).1 0 1)), (x3 ||| (1 <<< (((uI σ 6 (x4 : Int32).toNatClampNeg (x2 - x2 / (σ.1 0 1) * (σ.1 0 1))).1 6 (x4 : Int32).toNatClampNeg) &&& 31))), (x4 + (-1)), (uI σ 6 (x4 : Int32).toNatClampNeg (x2 - x2 / (σ.1 0 1) * (σ.1 0 1))))
noncomputable def f9_layOrder_12 (p : Int32 × Int32 × Int32 × HS) : Option (Int32 × HS) :=
  wloop (fun k12 p => f9_layOrder_12_b k12 p.1 p.2.1 p.2.2.1 p.2.2.2) fuelN p
noncomputable def f9_layOrder (x1 : Int32) (σ : HS) : Option (Int32 × HS) :=
  f9_layOrder_12 (x1, 0, ((σ.1 0 1) - 1), σ)
noncomputable def f9_otherPlaces_33 (k4 : Int32 × Int32 × HS → Option (Int32 × HS)) (x2 : Int32) (z0 : Int32) (z1 : Int32) (σ : HS) : Option (Int32 × HS) :=
  k4 ((z1 + z0), (x2 + 1), σ)
noncomputable def f9_otherPlaces_4_b (k4 : Int32 × Int32 × HS → Option (Int32 × HS)) (x1 : Int32) (x2 : Int32) (σ : HS) : Option (Int32 × HS) :=
  if ((σ.1 0 1) : Int32) ≤ x2 then
    some (x1, σ)
  else
    if (x2 : Int32) < 0 ∨ 5 ≤ (x2 : Int32).toNatClampNeg then none else
    if (x2 : Int32) < 0 ∨ 5 ≤ (x2 : Int32).toNatClampNeg then none else
    if ((σ.1 6 (x2 : Int32).toNatClampNeg) : Int32) = (σ.1 18 (x2 : Int32).toNatClampNeg) then
      f9_otherPlaces_33 k4 x2 0 x1 σ
    else
      f9_otherPlaces_33 k4 x2 1 x1 σ
noncomputable def f9_otherPlaces_4 (p : Int32 × Int32 × HS) : Option (Int32 × HS) :=
  wloop (fun k4 p => f9_otherPlaces_4_b k4 p.1 p.2.1 p.2.2) fuelN p
noncomputable def f9_otherPlaces (σ : HS) : Option (Int32 × HS) :=
  f9_otherPlaces_4 (0, 0, σ)
noncomputable def f9_motion_165_b (k165 : Int32 × HS → Option (Int32 × HS)) (x3 : Int32) (x5 : Int32) (x6 : Int32) (σ : HS) : Option (Int32 × HS) :=
  if ((σ.1 0 1) : Int32) ≤ x6 then
    if (x5 : Int32) = 99 then
      some ((-9), σ)
    else
      if 0 ≤ (x3 : Int32) then
        if (x3 : Int32) < 0 ∨ 6 ≤ (x3 : Int32).toNatClampNeg then none else
        some ((σ.1 17 (x3 : Int32).toNatClampNeg), σ)
      else
        some (x5, σ)
  else
    if (x6 : Int32) < 0 ∨ 5 ≤ (x6 : Int32).toNatClampNeg then none else
    if (x6 : Int32) < 0 ∨ 5 ≤ (x6 : Int32).toNatClampNeg then none else
    k165 ((x6 + 1), (uI σ 6 (x6 : Int32).toNatClampNeg (σ.1 18 (x6 : Int32).toNatClampNeg)))
noncomputable def f9_motion_165 (x3 : Int32) (x5 : Int32) (p : Int32 × HS) : Option (Int32 × HS) :=
  wloop (fun k165 p => f9_motion_165_b k165 x3 x5 p.1 p.2) fuelN p
noncomputable def f9_motion_156 (k80 : Int32 × Int32 × HS → Option (Int32 × HS)) (x1 : Int32) (x2 : Int32) (x3 : Int32) (x4 : Int32) (x5 : Int32) (x6 : Int32) (σ : HS) : Option (Int32 × HS) :=
  k80 (x5, (x6 + 1), σ)
noncomputable def f9_motion_127_b (k80 : Int32 × Int32 × HS → Option (Int32 × HS)) (k127 : Int32 × HS → Option (Int32 × HS)) (x1 : Int32) (x2 : Int32) (x3 : Int32) (x4 : Int32) (x5 : Int32) (x6 : Int32) (x7 : Int32) (σ : HS) : Option (Int32 × HS) :=
  if ((σ.1 0 1) : Int32) ≤ x7 then
    f9_motion_156 k80 x1 x2 x3 x4 x5 x6 σ
  else
    if (x7 : Int32) < 0 ∨ 5 ≤ (x7 : Int32).toNatClampNeg then none else
    if (x7 : Int32) < 0 ∨ 6 ≤ (x7 : Int32).toNatClampNeg then none else
    k127 ((x7 + 1), (uI σ 17 (x7 : Int32).toNatClampNeg (σ.1 6 (x7 : Int32).toNatClampNeg)))
noncomputable def f9_motion_127 (k80 : Int32 × Int32 × HS → Option (Int32 × HS)) (x1 : Int32) (x2 : Int32) (x3 : Int32) (x4 : Int32) (x5 : Int32) (x6 : Int32) (p : Int32 × HS) : Option (Int32 × HS) :=
  wloop (fun k127 p => f9_motion_127_b k80 k127 x1 x2 x3 x4 x5 x6 p.1 p.2) fuelN p
noncomputable def f9_motion_80_b (k80 : Int32 × Int32 × HS → Option (Int32 × HS)) (x1 : Int32) (x2 : Int32) (x3 : Int32) (x4 : Int32) (x5 : Int32) (x6 : Int32) (σ : HS) : Option (Int32 × HS) :=
  if (x4 : Int32) ≤ x6 then
    f9_motion_165 x3 x5 (0, σ)
  else
    bd (f9_layOrder x6 σ) fun r2 =>
    if (r2.1 : Int32) = 0 then
      f9_motion_156 k80 x1 x2 x3 x4 x5 x6 (r2.2)
    else
      bd (f9_otherPlaces (r2.2)) fun r4 =>
      if (x5 : Int32) ≤ (r4.1) then
        f9_motion_156 k80 x1 x2 x3 x4 x5 x6 (r4.2)
      else
        bd (f9_goFree (r4.2)) fun r6 =>
        bd (f9_isSaid x1 x2 r6) fun r7 =>
        if (r7.1 : Int32) = 0 then
          f9_motion_156 k80 x1 x2 x3 x4 x5 x6 (r7.2)
        else
          bd (f9_otherPlaces (r7.2)) fun r9 =>
          f9_motion_127 k80 x1 x2 x3 x4 (r9.1) x6 (0, r9.2)
noncomputable def f9_motion_80 (x1 : Int32) (x2 : Int32) (x3 : Int32) (x4 : Int32) (p : Int32 × Int32 × HS) : Option (Int32 × HS) :=
  wloop (fun k80 p => f9_motion_80_b k80 x1 x2 x3 x4 p.1 p.2.1 p.2.2) fuelN p
noncomputable def f9_motion_35_b (k35 : Int32 × Int32 × HS → Option (Int32 × HS)) (x1 : Int32) (x2 : Int32) (x3 : Int32) (x4 : Int32) (x5 : Int32) (σ : HS) : Option (Int32 × HS) :=
  if ((σ.1 0 1) : Int32) ≤ x5 then
    f9_motion_80 x1 x2 x3 x4 (99, 0, σ)
  else
    if (x5 : Int32) < 0 ∨ 5 ≤ (x5 : Int32).toNatClampNeg then none else
    if (x5 : Int32) < 0 ∨ 5 ≤ (x5 : Int32).toNatClampNeg then none else
    k35 ((x4 * ((uI σ 18 (x5 : Int32).toNatClampNeg (σ.1 6 (x5 : Int32).toNatClampNeg)).1 0 1)), (x5 + 1), (uI σ 18 (x5 : Int32).toNatClampNeg (σ.1 6 (x5 : Int32).toNatClampNeg)))
noncomputable def f9_motion_35 (x1 : Int32) (x2 : Int32) (x3 : Int32) (p : Int32 × Int32 × HS) : Option (Int32 × HS) :=
  wloop (fun k35 p => f9_motion_35_b k35 x1 x2 x3 p.1 p.2.1 p.2.2) fuelN p
noncomputable def f9_motion (x1 : Int32) (x2 : Int32) (x3 : Int32) (σ : HS) : Option (Int32 × HS) :=
  bd (f9_noWord x1 x2 σ) fun r1 =>
  if (r1.1 : Int32) = 0 then
    bd (f9_in ((x3 : Int32).toInt64) (-1) (((((r1.2).1 0 1) : Int32).toInt64) - 1) (r1.2)) fun r3 =>
    if (r3.1 : Int32) = 0 then
      some ((-1), r3.2)
    else
      f9_motion_35 x1 x2 x3 (1, 0, r3.2)
  else
    some ((-1), r1.2)
noncomputable def f9_dry_98 (k20 : Int32 × Int32 × HS → Option (Int32 × HS)) (x1 : Int32) (x2 : Int32) (x3 : Int32) (x4 : Int32) (σ : HS) : Option (Int32 × HS) :=
  k20 (x3, (x4 + 1), σ)
noncomputable def f9_dry_90 (k20 : Int32 × Int32 × HS → Option (Int32 × HS)) (k32 : Int32 × Int32 × HS → Option (Int32 × HS)) (x1 : Int32) (x2 : Int32) (x4 : Int32) (x5 : Int32) (z0 : Int32) (z1 : Int32) (σ : HS) : Option (Int32 × HS) :=
  k32 ((z1 ||| z0), (x5 + 1), σ)
noncomputable def f9_dry_69 (k20 : Int32 × Int32 × HS → Option (Int32 × HS)) (k32 : Int32 × Int32 × HS → Option (Int32 × HS)) (x1 : Int32) (x2 : Int32) (x3 : Int32) (x4 : Int32) (x5 : Int32) (z0 : Int32) (z1 : Int32) (σ : HS) : Option (Int32 × HS) :=
  bd (f9_goDay z1 z0 σ) fun r1 =>
  bd (f9_isSaid x1 x2 r1) fun r2 =>
  if (r2.1 : Int32) = 0 then
    f9_dry_90 k20 k32 x1 x2 x4 x5 (1 <<< (x4 &&& 31)) x3 (r2.2)
  else
    f9_dry_90 k20 k32 x1 x2 x4 x5 0 x3 (r2.2)
noncomputable def f9_dry_32_b (k20 : Int32 × Int32 × HS → Option (Int32 × HS)) (k32 : Int32 × Int32 × HS → Option (Int32 × HS)) (x1 : Int32) (x2 : Int32) (x3 : Int32) (x4 : Int32) (x5 : Int32) (σ : HS) : Option (Int32 × HS) :=
  if (x4 : Int32) < 0 ∨ 5 ≤ (x4 : Int32).toNatClampNeg then none else
  if ((σ.1 2 (x4 : Int32).toNatClampNeg) : Int32) ≤ x5 then
    f9_dry_98 k20 x1 x2 x3 x4 σ
  else
    if (x4 : Int32) = x1 then
      f9_dry_98 k20 x1 x2 x3 x4 σ
    else
      bd (f9_placeOf x4 σ) fun r4 =>
      if 0 ≤ (x5 : Int32) then
        f9_dry_69 k20 k32 x1 x2 x3 x4 x5 x5 (r4.1) (r4.2)
      else
        f9_dry_69 k20 k32 x1 x2 x3 x4 x5 (-9) (r4.1) (r4.2)
noncomputable def f9_dry_32 (k20 : Int32 × Int32 × HS → Option (Int32 × HS)) (x1 : Int32) (x2 : Int32) (x4 : Int32) (p : Int32 × Int32 × HS) : Option (Int32 × HS) :=
  wloop (fun k32 p => f9_dry_32_b k20 k32 x1 x2 p.1 x4 p.2.1 p.2.2) fuelN p
noncomputable def f9_dry_20_b (k20 : Int32 × Int32 × HS → Option (Int32 × HS)) (x1 : Int32) (x2 : Int32) (x3 : Int32) (x4 : Int32) (σ : HS) : Option (Int32 × HS) :=
  if ((σ.1 0 1) : Int32) ≤ x4 then
    some (x3, σ)
  else
    f9_dry_32 k20 x1 x2 x4 (x3, (-1), σ)
noncomputable def f9_dry_20 (x1 : Int32) (x2 : Int32) (p : Int32 × Int32 × HS) : Option (Int32 × HS) :=
  wloop (fun k20 p => f9_dry_20_b k20 x1 x2 p.1 p.2.1 p.2.2) fuelN p
noncomputable def f9_dry (x1 : Int32) (x2 : Int32) (σ : HS) : Option (Int32 × HS) :=
  bd (f9_noWord x1 x2 σ) fun r1 =>
  if (r1.1 : Int32) = 0 then
    bd (f9_layChoices (r1.2)) fun r3 =>
    f9_dry_20 x1 x2 (0, 0, r3)
  else
    some ((-1), r1.2)
noncomputable def f9_day_102_b (k102 : Int32 × HS → Option (Int32 × HS)) (x4 : Int32) (x6 : Int32) (x7 : Int32) (σ : HS) : Option (Int32 × HS) :=
  bd (f9_turnsNow σ) fun r1 =>
  if (r1.1 : Int32) ≤ x7 then
    if (((r1.2).1 0 29) : Int32) < 0 ∨ 6 ≤ (((r1.2).1 0 29) : Int32).toNatClampNeg then none else
    bd (f9_refused (((uI (uI (r1.2) 20 (((r1.2).1 0 29) : Int32).toNatClampNeg x4) 0 29 (((uI (r1.2) 20 (((r1.2).1 0 29) : Int32).toNatClampNeg x4).1 0 29) + 1)).1 0 29) - 1) (uI (uI (r1.2) 20 (((r1.2).1 0 29) : Int32).toNatClampNeg x4) 0 29 (((uI (r1.2) 20 (((r1.2).1 0 29) : Int32).toNatClampNeg x4).1 0 29) + 1))) fun r4 =>
    some (r4.1, r4.2)
  else
    if ((x6 + x7) : Int32) < 0 ∨ 400 ≤ ((x6 + x7) : Int32).toNatClampNeg then none else
    if (((6 * ((r1.2).1 0 29)) + x7) : Int32) < 0 ∨ 36 ≤ (((6 * ((r1.2).1 0 29)) + x7) : Int32).toNatClampNeg then none else
    k102 ((x7 + 1), (uI (r1.2) 19 (((6 * ((r1.2).1 0 29)) + x7) : Int32).toNatClampNeg ((r1.2).1 23 ((x6 + x7) : Int32).toNatClampNeg)))
noncomputable def f9_day_102 (x4 : Int32) (x6 : Int32) (p : Int32 × HS) : Option (Int32 × HS) :=
  wloop (fun k102 p => f9_day_102_b k102 x4 x6 p.1 p.2) fuelN p
noncomputable def f9_day (x1 : Int32) (x2 : Int32) (x3 : Int32) (x4 : Int32) (σ : HS) : Option (Int32 × HS) :=
  bd (f9_turnsNow σ) fun r1 =>
  bd (f9_barred x1 x2 x3 ((r1.1 : Int32).toInt64) (r1.2)) fun r2 =>
  if 0 ≤ (r2.1 : Int32) then
    if (((r2.2).1 0 1) : Int32) = 0 then
      bd (f9_refused (-3) (r2.2)) fun r14 =>
      some (r14.1, r14.2)
    else
      bd (f9_turnsNow (r2.2)) fun r5 =>
      bd (f9_areWords ((100 * x1) + x3) (r5.1) (r5.2)) fun r6 =>
      if (r6.1 : Int32) = 0 then
        bd (f9_refused (-1) (r6.2)) fun r13 =>
        some (r13.1, r13.2)
      else
        bd (f9_in ((x4 : Int32).toInt64) 0 99 (r6.2)) fun r8 =>
        if (r8.1 : Int32) = 0 then
          bd (f9_refused (-2) (r8.2)) fun r12 =>
          some (r12.1, r12.2)
        else
          if (((r8.2).1 0 29) : Int32) = 6 then
            bd (f9_refused (-4) (r8.2)) fun r11 =>
            some (r11.1, r11.2)
          else
            f9_day_102 x4 ((100 * x1) + x3) (0, r8.2)
  else
    some (r2.1, r2.2)
noncomputable def f9_back (x1 : Int32) (σ : HS) : Option (Int32 × HS) :=
  bd (f9_in ((x1 : Int32).toInt64) 0 (((σ.1 0 29) : Int32).toInt64) σ) fun r1 =>
  if (r1.1 : Int32) = 0 then
    some ((-2), r1.2)
  else
    some (((uI (r1.2) 0 29 (((r1.2).1 0 29) - x1)).1 0 29), (uI (r1.2) 0 29 (((r1.2).1 0 29) - x1)))
noncomputable def f9_endsSo_6_b (k6 : Int32 × HS → Option (Int32 × HS)) (x1 : Int32) (x2 : Int32) (x3 : Int32) (σ : HS) : Option (Int32 × HS) :=
  bd (f9_turnsNow σ) fun r1 =>
  if (r1.1 : Int32) ≤ x3 then
    bd (f9_turnsNow (r1.2)) fun r3 =>
    if (r3.1 : Int32) < 0 ∨ 7 ≤ (r3.1 : Int32).toNatClampNeg then none else
    if (x1 : Int32) < 0 ∨ 6 ≤ (x1 : Int32).toNatClampNeg then none else
    if (((r3.2).1 13 (r3.1 : Int32).toNatClampNeg) : Int32) = ((r3.2).1 20 (x1 : Int32).toNatClampNeg) then
      some (1, r3.2)
    else
      some (0, r3.2)
  else
    if (((6 * x1) + x3) : Int32) < 0 ∨ 36 ≤ (((6 * x1) + x3) : Int32).toNatClampNeg then none else
    bd (f9_goTurn x3 ((r1.2).1 19 (((6 * x1) + x3) : Int32).toNatClampNeg) x2 (r1.2)) fun r8 =>
    k6 ((x3 + 1), r8)
noncomputable def f9_endsSo_6 (x1 : Int32) (x2 : Int32) (p : Int32 × HS) : Option (Int32 × HS) :=
  wloop (fun k6 p => f9_endsSo_6_b k6 x1 x2 p.1 p.2) fuelN p
noncomputable def f9_endsSo (x1 : Int32) (x2 : Int32) (σ : HS) : Option (Int32 × HS) :=
  bd (f9_beginDay σ) fun r1 =>
  f9_endsSo_6 x1 x2 (0, r1)
noncomputable def f9_guess_139 (k31 : Int32 × Int32 × Int32 × HS → Option (Int32 × HS)) (k43 : Int32 × Int32 × Int32 × HS → Option (Int32 × HS)) (x1 : Int32) (x2 : Int32) (x4 : Int32) (x5 : Int32) (z0 : Int32) (σ : HS) : Option (Int32 × HS) :=
  k43 (x2, z0, (x5 + 1), σ)
noncomputable def f9_guess_138 (k31 : Int32 × Int32 × Int32 × HS → Option (Int32 × HS)) (k43 : Int32 × Int32 × Int32 × HS → Option (Int32 × HS)) (x1 : Int32) (x2 : Int32) (x3 : Int32) (x4 : Int32) (x5 : Int32) (σ : HS) : Option (Int32 × HS) :=
  f9_guess_139 k31 k43 x1 x2 x4 x5 x3 σ
noncomputable def f9_guess_116 (k31 : Int32 × Int32 × Int32 × HS → Option (Int32 × HS)) (k43 : Int32 × Int32 × Int32 × HS → Option (Int32 × HS)) (x1 : Int32) (x3 : Int32) (x4 : Int32) (x5 : Int32) (x6 : Int32) (z0 : Int32) (z1 : Int32) (σ : HS) : Option (Int32 × HS) :=
  if (x6 : Int32) = 0 then
    f9_guess_138 k31 k43 x1 (z1 + z0) x3 x4 x5 σ
  else
    if 0 ≤ (x3 : Int32) then
      f9_guess_138 k31 k43 x1 (z1 + z0) x3 x4 x5 σ
    else
      f9_guess_139 k31 k43 x1 (z1 + z0) x4 x5 ((10 * x4) + x5) σ
noncomputable def f9_guess_97 (k31 : Int32 × Int32 × Int32 × HS → Option (Int32 × HS)) (k43 : Int32 × Int32 × Int32 × HS → Option (Int32 × HS)) (k56 : Int32 × Int32 × HS → Option (Int32 × HS)) (x1 : Int32) (x2 : Int32) (x3 : Int32) (x4 : Int32) (x5 : Int32) (x7 : Int32) (z0 : Int32) (σ : HS) : Option (Int32 × HS) :=
  k56 (z0, (x7 + 1), σ)
noncomputable def f9_guess_96 (k31 : Int32 × Int32 × Int32 × HS → Option (Int32 × HS)) (k43 : Int32 × Int32 × Int32 × HS → Option (Int32 × HS)) (k56 : Int32 × Int32 × HS → Option (Int32 × HS)) (x1 : Int32) (x2 : Int32) (x3 : Int32) (x4 : Int32) (x5 : Int32) (x7 : Int32) (σ : HS) : Option (Int32 × HS) :=
  f9_guess_97 k31 k43 k56 x1 x2 x3 x4 x5 x7 0 σ
noncomputable def f9_guess_86 (k31 : Int32 × Int32 × Int32 × HS → Option (Int32 × HS)) (k43 : Int32 × Int32 × Int32 × HS → Option (Int32 × HS)) (k56 : Int32 × Int32 × HS → Option (Int32 × HS)) (x1 : Int32) (x2 : Int32) (x3 : Int32) (x4 : Int32) (x5 : Int32) (x7 : Int32) (z0 : Int32) (z1 : Int32) (σ : HS) : Option (Int32 × HS) :=
  bd (f9_endsSo z1 z0 σ) fun r1 =>
  if (r1.1 : Int32) = 0 then
    f9_guess_96 k31 k43 k56 x1 x2 x3 x4 x5 x7 (r1.2)
  else
    f9_guess_97 k31 k43 k56 x1 x2 x3 x4 x5 x7 1 (r1.2)
noncomputable def f9_guess_56_b (k31 : Int32 × Int32 × Int32 × HS → Option (Int32 × HS)) (k43 : Int32 × Int32 × Int32 × HS → Option (Int32 × HS)) (k56 : Int32 × Int32 × HS → Option (Int32 × HS)) (x1 : Int32) (x2 : Int32) (x3 : Int32) (x4 : Int32) (x5 : Int32) (x6 : Int32) (x7 : Int32) (σ : HS) : Option (Int32 × HS) :=
  if ((σ.1 0 29) : Int32) ≤ x7 then
    if (x6 : Int32) = 0 then
      f9_guess_116 k31 k43 x1 x3 x4 x5 x6 0 x2 σ
    else
      f9_guess_116 k31 k43 x1 x3 x4 x5 x6 1 x2 σ
  else
    if (x6 : Int32) = 0 then
      f9_guess_96 k31 k43 k56 x1 x2 x3 x4 x5 x7 σ
    else
      if (x4 : Int32) ≤ x7 then
        f9_guess_86 k31 k43 k56 x1 x2 x3 x4 x5 x7 x5 x7 σ
      else
        f9_guess_86 k31 k43 k56 x1 x2 x3 x4 x5 x7 0 x7 σ
noncomputable def f9_guess_56 (k31 : Int32 × Int32 × Int32 × HS → Option (Int32 × HS)) (k43 : Int32 × Int32 × Int32 × HS → Option (Int32 × HS)) (x1 : Int32) (x2 : Int32) (x3 : Int32) (x4 : Int32) (x5 : Int32) (p : Int32 × Int32 × HS) : Option (Int32 × HS) :=
  wloop (fun k56 p => f9_guess_56_b k31 k43 k56 x1 x2 x3 x4 x5 p.1 p.2.1 p.2.2) fuelN p
noncomputable def f9_guess_43_b (k31 : Int32 × Int32 × Int32 × HS → Option (Int32 × HS)) (k43 : Int32 × Int32 × Int32 × HS → Option (Int32 × HS)) (x1 : Int32) (x2 : Int32) (x3 : Int32) (x4 : Int32) (x5 : Int32) (σ : HS) : Option (Int32 × HS) :=
  if (10 : Int32) ≤ x5 then
    k31 (x2, x3, (x4 + 1), σ)
  else
    f9_guess_56 k31 k43 x1 x2 x3 x4 x5 (1, 0, σ)
noncomputable def f9_guess_43 (k31 : Int32 × Int32 × Int32 × HS → Option (Int32 × HS)) (x1 : Int32) (x4 : Int32) (p : Int32 × Int32 × Int32 × HS) : Option (Int32 × HS) :=
  wloop (fun k43 p => f9_guess_43_b k31 k43 x1 p.1 p.2.1 x4 p.2.2.1 p.2.2.2) fuelN p
noncomputable def f9_guess_31_b (k31 : Int32 × Int32 × Int32 × HS → Option (Int32 × HS)) (x1 : Int32) (x2 : Int32) (x3 : Int32) (x4 : Int32) (σ : HS) : Option (Int32 × HS) :=
  if ((σ.1 0 29) : Int32) < x4 then
    if (x1 : Int32) = 0 then
      some (x2, σ)
    else
      some (x3, σ)
  else
    f9_guess_43 k31 x1 x4 (x2, x3, 0, σ)
noncomputable def f9_guess_31 (x1 : Int32) (p : Int32 × Int32 × Int32 × HS) : Option (Int32 × HS) :=
  wloop (fun k31 p => f9_guess_31_b k31 x1 p.1 p.2.1 p.2.2.1 p.2.2.2) fuelN p
noncomputable def f9_guess (x1 : Int32) (σ : HS) : Option (Int32 × HS) :=
  bd (f9_in ((x1 : Int32).toInt64) 0 1 σ) fun r1 =>
  if (r1.1 : Int32) = 0 then
    some ((-2), r1.2)
  else
    if (((r1.2).1 0 1) : Int32) = 0 then
      some ((-3), r1.2)
    else
      f9_guess_31 x1 (0, (-9), 0, r1.2)
noncomputable def f9_worthBy (x1 : Int32) (σ : HS) : Option (Int32 × HS) :=
  bd (f9_goFree (uI σ 0 4 x1)) fun r1 =>
  bd (f9_worthToAll (uI r1 0 4 (σ.1 0 4))) fun r2 =>
  some (r2.1, r2.2)
noncomputable def f9_byLaw_71 (k45 : Int32 × Int32 × Int32 × HS → Option (Int32 × HS)) (x3 : Int32) (x4 : Int32) (x5 : Int32) (z0 : Int32) (σ : HS) : Option (Int32 × HS) :=
  bd (f9_greater x3 x5 σ) fun r1 =>
  k45 (z0, r1.1, (x4 + 1), r1.2)
noncomputable def f9_byLaw_45_b (k45 : Int32 × Int32 × Int32 × HS → Option (Int32 × HS)) (x2 : Int32) (x3 : Int32) (x4 : Int32) (σ : HS) : Option (Int32 × HS) :=
  if (4 : Int32) ≤ x4 then
    some (x2, σ)
  else
    bd (f9_worthBy x4 σ) fun r2 =>
    if (r2.1 : Int32) ≤ x3 then
      f9_byLaw_71 k45 x3 x4 (r2.1) x2 (r2.2)
    else
      f9_byLaw_71 k45 x3 x4 (r2.1) x4 (r2.2)
noncomputable def f9_byLaw_45 (p : Int32 × Int32 × Int32 × HS) : Option (Int32 × HS) :=
  wloop (fun k45 p => f9_byLaw_45_b k45 p.1 p.2.1 p.2.2.1 p.2.2.2) fuelN p
noncomputable def f9_byLaw (x1 : Int32) (σ : HS) : Option (Int32 × HS) :=
  bd (f9_in ((x1 : Int32).toInt64) (-1) 3 σ) fun r1 =>
  if (r1.1 : Int32) = 0 then
    some ((-2), r1.2)
  else
    if (((r1.2).1 0 1) : Int32) = 0 then
      some ((-3), r1.2)
    else
      if (x1 : Int32) < 0 then
        f9_byLaw_45 (0, (-9), 0, r1.2)
      else
        bd (f9_worthBy x1 (r1.2)) fun r5 =>
        some (r5.1, r5.2)
noncomputable def f9_share_18 (σ : HS) : Option (Int64 × HS) :=
  bd (f9_lost σ) fun r1 =>
  some (r1.1, r1.2)
noncomputable def f9_share_67 (k31 : Int32 × Int32 × HS → Option (Int64 × HS)) (x1 : Int32) (x2 : Int32) (x4 : Int32) (z0 : Int32) (z1 : Int32) (σ : HS) : Option (Int64 × HS) :=
  k31 ((z1 + z0), (x4 + 1), σ)
noncomputable def f9_share_31_b (k31 : Int32 × Int32 × HS → Option (Int64 × HS)) (x1 : Int32) (x2 : Int32) (x3 : Int32) (x4 : Int32) (σ : HS) : Option (Int64 × HS) :=
  bd (f9_turnsNow σ) fun r1 =>
  if (r1.1 : Int32) ≤ x4 then
    bd (f9_told ((x3 : Int32).toInt64) ((((r1.2).1 0 2) : Int32).toInt64) x2 (r1.2)) fun r3 =>
    some (r3.1, r3.2)
  else
    bd (f9_speakerOf x4 (r1.2)) fun r4 =>
    if (r4.1 : Int32) = x1 then
      if (x4 : Int32) < 0 ∨ 6 ≤ (x4 : Int32).toNatClampNeg then none else
      bd (f9_lengthAs x1 ((r4.2).1 12 (x4 : Int32).toNatClampNeg) (r4.2)) fun r7 =>
      f9_share_67 k31 x1 x2 x4 (r7.1) x3 (r7.2)
    else
      f9_share_67 k31 x1 x2 x4 0 x3 (r4.2)
noncomputable def f9_share_31 (x1 : Int32) (x2 : Int32) (p : Int32 × Int32 × HS) : Option (Int64 × HS) :=
  wloop (fun k31 p => f9_share_31_b k31 x1 x2 p.1 p.2.1 p.2.2) fuelN p
noncomputable def f9_share (x1 : Int32) (x2 : Int32) (σ : HS) : Option (Int64 × HS) :=
  bd (f9_noSpeaker x1 σ) fun r1 =>
  if (r1.1 : Int32) = 0 then
    bd (f9_in ((x2 : Int32).toInt64) 0 1 (r1.2)) fun r3 =>
    if (r3.1 : Int32) = 0 then
      f9_share_18 (r3.2)
    else
      bd (f9_goFree (r3.2)) fun r5 =>
      f9_share_31 x1 x2 (0, 0, r5)
  else
    f9_share_18 (r1.2)
noncomputable def f9_sheet_31 (σ : HS) : Option (Int32 × HS) :=
  bd (f9_refused (-2) σ) fun r1 =>
  some (r1.1, r1.2)
noncomputable def f9_sheet_65_b (k65 : Int32 × HS → Option (Int32 × HS)) (x1 : Int32) (x3 : Int32) (x4 : Int32) (σ : HS) : Option (Int32 × HS) :=
  if (x3 : Int32) ≤ x4 then
    bd (f9_refused 1 σ) fun r2 =>
    some (r2.1, r2.2)
  else
    if (((100 * x1) + x4) : Int32) < 0 ∨ 400 ≤ (((100 * x1) + x4) : Int32).toNatClampNeg then none else
    k65 ((x4 + 1), (uI σ 23 (((100 * x1) + x4) : Int32).toNatClampNeg 0))
noncomputable def f9_sheet_65 (x1 : Int32) (x3 : Int32) (p : Int32 × HS) : Option (Int32 × HS) :=
  wloop (fun k65 p => f9_sheet_65_b k65 x1 x3 p.1 p.2) fuelN p
noncomputable def f9_sheet (x1 : Int32) (x2 : Int32) (x3 : Int32) (σ : HS) : Option (Int32 × HS) :=
  bd (f9_noSheet x1 σ) fun r1 =>
  if (r1.1 : Int32) = 0 then
    bd (f9_in ((x2 : Int32).toInt64) 0 2 (r1.2)) fun r3 =>
    if (r3.1 : Int32) = 0 then
      f9_sheet_31 (r3.2)
    else
      if (x3 : Int32) ≤ 100 then
        if 0 ≤ (x3 : Int32) then
          if (x1 : Int32) < 0 ∨ 4 ≤ (x1 : Int32).toNatClampNeg then none else
          if (x1 : Int32) < 0 ∨ 4 ≤ (x1 : Int32).toNatClampNeg then none else
          f9_sheet_65 x1 x3 (0, (uI (uI (r3.2) 21 (x1 : Int32).toNatClampNeg x3) 22 (x1 : Int32).toNatClampNeg x2))
        else
          bd (f9_failed 4 (r3.2)) fun r9 =>
          some (r9.1, r9.2)
      else
        f9_sheet_31 (r3.2)
  else
    bd (f9_refused (-1) (r1.2)) fun r10 =>
    some (r10.1, r10.2)
noncomputable def f9_lose_23 (x1 : Int32) (z0 : Int32) (σ : HS) : Option (Int32 × HS) :=
  if (x1 : Int32) < 0 ∨ 4 ≤ (x1 : Int32).toNatClampNeg then none else
  some (z0, (uI σ 21 (x1 : Int32).toNatClampNeg (-1)))
noncomputable def f9_lose (x1 : Int32) (σ : HS) : Option (Int32 × HS) :=
  bd (f9_noSheet x1 σ) fun r1 =>
  if (r1.1 : Int32) = 0 then
    if (x1 : Int32) < 0 ∨ 4 ≤ (x1 : Int32).toNatClampNeg then none else
    if 0 ≤ (((r1.2).1 21 (x1 : Int32).toNatClampNeg) : Int32) then
      f9_lose_23 x1 1 (r1.2)
    else
      f9_lose_23 x1 0 (r1.2)
  else
    some ((-1), r1.2)
noncomputable def f9_noCell (x1 : Int32) (x2 : Int32) (σ : HS) : Option (Int32 × HS) :=
  if (x1 : Int32) < 0 ∨ 4 ≤ (x1 : Int32).toNatClampNeg then none else
  if 0 ≤ ((σ.1 21 (x1 : Int32).toNatClampNeg) : Int32) then
    if (x1 : Int32) < 0 ∨ 4 ≤ (x1 : Int32).toNatClampNeg then none else
    bd (f9_in ((x2 : Int32).toInt64) 0 ((((σ.1 21 (x1 : Int32).toNatClampNeg) : Int32).toInt64) - 1) σ) fun r4 =>
    if (r4.1 : Int32) = 0 then
      some (3, r4.2)
    else
      some (0, r4.2)
  else
    some (1, σ)
noncomputable def f9_put_73 (z0 : Int32) (z1 : Int32) (σ : HS) : Option (Int32 × HS) :=
  if (z1 : Int32) < 0 ∨ 400 ≤ (z1 : Int32).toNatClampNeg then none else
  bd (f9_refused 1 (uI σ 23 (z1 : Int32).toNatClampNeg z0)) fun r2 =>
  some (r2.1, r2.2)
noncomputable def f9_put (x1 : Int32) (x2 : Int32) (x3 : Int32) (σ : HS) : Option (Int32 × HS) :=
  bd (f9_noSheet x1 σ) fun r1 =>
  if (r1.1 : Int32) = 0 then
    bd (f9_noCell x1 x2 (r1.2)) fun r3 =>
    if (r3.1 : Int32) ≤ 0 then
      if (x1 : Int32) < 0 ∨ 4 ≤ (x1 : Int32).toNatClampNeg then none else
      if (((r3.2).1 22 (x1 : Int32).toNatClampNeg) : Int32) = 0 then
        f9_put_73 ((x3 : Int32).toInt8.toInt32) ((100 * x1) + x2) (r3.2)
      else
        if (x1 : Int32) < 0 ∨ 4 ≤ (x1 : Int32).toNatClampNeg then none else
        if (((r3.2).1 22 (x1 : Int32).toNatClampNeg) : Int32) = 1 then
          f9_put_73 ((x3 : Int32).toInt16.toInt32) ((100 * x1) + x2) (r3.2)
        else
          f9_put_73 x3 ((100 * x1) + x2) (r3.2)
    else
      bd (f9_noCell x1 x2 (r3.2)) fun r9 =>
      bd (f9_failed (r9.1) (r9.2)) fun r10 =>
      some (r10.1, r10.2)
  else
    bd (f9_refused (-1) (r1.2)) fun r11 =>
    some (r11.1, r11.2)
noncomputable def f9_cell_24 (σ : HS) : Option (Int64 × HS) :=
  bd (f9_lost σ) fun r1 =>
  some (r1.1, r1.2)
noncomputable def f9_cell_53 (x1 : Int32) (x2 : Int32) (σ : HS) : Option (Int64 × HS) :=
  bd (f9_noCell x1 x2 σ) fun r1 =>
  if (r1.1 : Int32) ≤ 0 then
    if (((100 * x1) + x2) : Int32) < 0 ∨ 400 ≤ (((100 * x1) + x2) : Int32).toNatClampNeg then none else
    some ((((r1.2).1 23 (((100 * x1) + x2) : Int32).toNatClampNeg) : Int32).toInt64, r1.2)
  else
    bd (f9_noCell x1 x2 (r1.2)) fun r4 =>
    bd (f9_failedLong (r4.1) (r4.2)) fun r5 =>
    some (r5.1, r5.2)
noncomputable def f9_cell (x1 : Int32) (x2 : Int32) (x3 : Int32) (σ : HS) : Option (Int64 × HS) :=
  bd (f9_noSheet x1 (uI σ 0 0 0)) fun r1 =>
  if (r1.1 : Int32) = 0 then
    bd (f9_in ((x3 : Int32).toInt64) 0 2 (r1.2)) fun r3 =>
    if (r3.1 : Int32) = 0 then
      f9_cell_24 (r3.2)
    else
      if (x1 : Int32) < 0 ∨ 4 ≤ (x1 : Int32).toNatClampNeg then none else
      if (((r3.2).1 21 (x1 : Int32).toNatClampNeg) : Int32) < 0 then
        f9_cell_53 x1 x2 (r3.2)
      else
        if (x1 : Int32) < 0 ∨ 4 ≤ (x1 : Int32).toNatClampNeg then none else
        if (((r3.2).1 22 (x1 : Int32).toNatClampNeg) : Int32) = x3 then
          f9_cell_53 x1 x2 (r3.2)
        else
          bd (f9_failedLong 2 (r3.2)) fun r9 =>
          some (r9.1, r9.2)
  else
    f9_cell_24 (r1.2)
noncomputable def f9_copy_14 (σ : HS) : Option (Int32 × HS) :=
  bd (f9_refused (-1) σ) fun r1 =>
  some (r1.1, r1.2)
noncomputable def f9_copy_38 (σ : HS) : Option (Int32 × HS) :=
  bd (f9_failed 1 σ) fun r1 =>
  some (r1.1, r1.2)
noncomputable def f9_copy_98 (σ : HS) : Option (Int32 × HS) :=
  bd (f9_failed 3 σ) fun r1 =>
  some (r1.1, r1.2)
noncomputable def f9_copy_144_b (k144 : Int32 × HS → Option (Int32 × HS)) (x3 : Int32) (x4 : Int32) (x5 : Int32) (x6 : Int32) (σ : HS) : Option (Int32 × HS) :=
  if (x5 : Int32) ≤ x6 then
    bd (f9_refused x5 σ) fun r2 =>
    some (r2.1, r2.2)
  else
    if (x6 : Int32) < 0 ∨ 100 ≤ (x6 : Int32).toNatClampNeg then none else
    if ((((100 * x3) + x4) + x6) : Int32) < 0 ∨ 400 ≤ ((((100 * x3) + x4) + x6) : Int32).toNatClampNeg then none else
    k144 ((x6 + 1), (uI σ 23 ((((100 * x3) + x4) + x6) : Int32).toNatClampNeg (σ.1 24 (x6 : Int32).toNatClampNeg)))
noncomputable def f9_copy_144 (x3 : Int32) (x4 : Int32) (x5 : Int32) (p : Int32 × HS) : Option (Int32 × HS) :=
  wloop (fun k144 p => f9_copy_144_b k144 x3 x4 x5 p.1 p.2) fuelN p
noncomputable def f9_copy_107_b (k107 : Int32 × HS → Option (Int32 × HS)) (x1 : Int32) (x2 : Int32) (x3 : Int32) (x4 : Int32) (x5 : Int32) (x6 : Int32) (σ : HS) : Option (Int32 × HS) :=
  if (x5 : Int32) ≤ x6 then
    f9_copy_144 x3 x4 x5 (0, σ)
  else
    if ((((100 * x1) + x2) + x6) : Int32) < 0 ∨ 400 ≤ ((((100 * x1) + x2) + x6) : Int32).toNatClampNeg then none else
    if (x6 : Int32) < 0 ∨ 100 ≤ (x6 : Int32).toNatClampNeg then none else
    k107 ((x6 + 1), (uI σ 24 (x6 : Int32).toNatClampNeg (σ.1 23 ((((100 * x1) + x2) + x6) : Int32).toNatClampNeg)))
noncomputable def f9_copy_107 (x1 : Int32) (x2 : Int32) (x3 : Int32) (x4 : Int32) (x5 : Int32) (p : Int32 × HS) : Option (Int32 × HS) :=
  wloop (fun k107 p => f9_copy_107_b k107 x1 x2 x3 x4 x5 p.1 p.2) fuelN p
noncomputable def f9_copy (x1 : Int32) (x2 : Int32) (x3 : Int32) (x4 : Int32) (x5 : Int32) (σ : HS) : Option (Int32 × HS) :=
  bd (f9_noSheet x1 σ) fun r1 =>
  if (r1.1 : Int32) = 0 then
    bd (f9_noSheet x3 (r1.2)) fun r3 =>
    if (r3.1 : Int32) = 0 then
      if (x1 : Int32) < 0 ∨ 4 ≤ (x1 : Int32).toNatClampNeg then none else
      if (((r3.2).1 21 (x1 : Int32).toNatClampNeg) : Int32) < 0 then
        f9_copy_38 (r3.2)
      else
        if (x3 : Int32) < 0 ∨ 4 ≤ (x3 : Int32).toNatClampNeg then none else
        if 0 ≤ (((r3.2).1 21 (x3 : Int32).toNatClampNeg) : Int32) then
          if (x1 : Int32) < 0 ∨ 4 ≤ (x1 : Int32).toNatClampNeg then none else
          if (x3 : Int32) < 0 ∨ 4 ≤ (x3 : Int32).toNatClampNeg then none else
          if (((r3.2).1 22 (x1 : Int32).toNatClampNeg) : Int32) = ((r3.2).1 22 (x3 : Int32).toNatClampNeg) then
            if (x1 : Int32) < 0 ∨ 4 ≤ (x1 : Int32).toNatClampNeg then none else
            bd (f9_isBeyond x2 ((x5 : Int32).toInt64) ((r3.2).1 21 (x1 : Int32).toNatClampNeg) (r3.2)) fun r13 =>
            if (r13.1 : Int32) = 0 then
              if (x3 : Int32) < 0 ∨ 4 ≤ (x3 : Int32).toNatClampNeg then none else
              bd (f9_isBeyond x4 ((x5 : Int32).toInt64) ((r13.2).1 21 (x3 : Int32).toNatClampNeg) (r13.2)) fun r16 =>
              if (r16.1 : Int32) = 0 then
                f9_copy_107 x1 x2 x3 x4 x5 (0, r16.2)
              else
                f9_copy_98 (r16.2)
            else
              f9_copy_98 (r13.2)
          else
            bd (f9_failed 2 (r3.2)) fun r18 =>
            some (r18.1, r18.2)
        else
          f9_copy_38 (r3.2)
    else
      f9_copy_14 (r3.2)
  else
    f9_copy_14 (r1.2)
noncomputable def f9_traced (x1 : Int32) (σ : HS) : Option (HS) :=
  some (uI σ 0 36 ((31 * (σ.1 0 36)) + x1))
noncomputable def f9_tell_51 (x1 : Int32) (x2 : Int32) (σ : HS) : Option (Int32 × HS) :=
  if (x1 : Int32) < 0 ∨ 5 ≤ (x1 : Int32).toNatClampNeg then none else
  if (x2 : Int32) = 0 then
    some ((σ.1 2 (x1 : Int32).toNatClampNeg), σ)
  else
    if (x2 : Int32) = 1 then
      some (((σ.1 2 (x1 : Int32).toNatClampNeg) + 100), σ)
    else
      some (((2 * (σ.1 2 (x1 : Int32).toNatClampNeg)) + 100), σ)
noncomputable def f9_tell_36 (x1 : Int32) (x2 : Int32) (σ : HS) : Option (Int32 × HS) :=
  bd (f9_traced 1 σ) fun r1 =>
  if (x2 : Int32) = 2 then
    bd (f9_traced 1 r1) fun r3 =>
    f9_tell_51 x1 x2 r3
  else
    f9_tell_51 x1 x2 r1
noncomputable def f9_tell_27 (x1 : Int32) (x2 : Int32) (σ : HS) : Option (Int32 × HS) :=
  if (x2 : Int32) ≤ 0 then
    f9_tell_36 x1 x2 σ
  else
    bd (f9_traced 2 σ) fun r2 =>
    f9_tell_36 x1 x2 r2
noncomputable def f9_tell (x1 : Int32) (σ : HS) : Option (Int32 × HS) :=
  bd (f9_noSpeaker x1 σ) fun r1 =>
  if (r1.1 : Int32) = 0 then
    if (x1 : Int32) < 0 ∨ 5 ≤ (x1 : Int32).toNatClampNeg then none else
    if (((r1.2).1 1 (x1 : Int32).toNatClampNeg) : Int32) = 2 then
      bd (f9_traced 3 (r1.2)) fun r5 =>
      f9_tell_27 x1 ((r1.2).1 1 (x1 : Int32).toNatClampNeg) r5
    else
      f9_tell_27 x1 ((r1.2).1 1 (x1 : Int32).toNatClampNeg) (r1.2)
  else
    some ((-1), r1.2)
noncomputable def f9_call_26 (x1 : Int32) (z0 : Int32) (σ : HS) : Option (Int32 × HS) :=
  bd (f9_traced z0 σ) fun r1 =>
  if (x1 : Int32) < 0 ∨ 5 ≤ (x1 : Int32).toNatClampNeg then none else
  if ((r1.1 1 (x1 : Int32).toNatClampNeg) : Int32) = 2 then
    some (90, r1)
  else
    some (x1, r1)
noncomputable def f9_call (x1 : Int32) (σ : HS) : Option (Int32 × HS) :=
  bd (f9_noSpeaker x1 σ) fun r1 =>
  if (r1.1 : Int32) = 0 then
    if (x1 : Int32) < 0 ∨ 5 ≤ (x1 : Int32).toNatClampNeg then none else
    if (((r1.2).1 1 (x1 : Int32).toNatClampNeg) : Int32) = 2 then
      f9_call_26 x1 5 (r1.2)
    else
      f9_call_26 x1 4 (r1.2)
  else
    some ((-1), r1.2)
noncomputable def f9_as (x1 : Int32) (x2 : Int32) (σ : HS) : Option (Int32 × HS) :=
  bd (f9_noSpeaker x1 σ) fun r1 =>
  if (r1.1 : Int32) = 0 then
    bd (f9_in ((x2 : Int32).toInt64) 0 2 (r1.2)) fun r3 =>
    if (r3.1 : Int32) = 0 then
      bd (f9_refused (-2) (r3.2)) fun r9 =>
      some (r9.1, r9.2)
    else
      if (x1 : Int32) < 0 ∨ 5 ≤ (x1 : Int32).toNatClampNeg then none else
      if (((r3.2).1 1 (x1 : Int32).toNatClampNeg) : Int32) < x2 then
        bd (f9_failed 2 (r3.2)) fun r7 =>
        some (r7.1, r7.2)
      else
        bd (f9_refused 1 (r3.2)) fun r8 =>
        some (r8.1, r8.2)
  else
    bd (f9_refused (-1) (r1.2)) fun r10 =>
    some (r10.1, r10.2)
noncomputable def f9_trace (σ : HS) : Option (Int32 × HS) :=
  some ((σ.1 0 36), σ)
noncomputable def f9_fault (σ : HS) : Option (Int32 × HS) :=
  some ((σ.1 0 0), σ)
noncomputable def f9_many (x1 : Int32) (σ : HS) : Option (Int32 × HS) :=
  if (x1 : Int32) = 0 then
    some ((σ.1 0 1), σ)
  else
    if (x1 : Int32) = 1 then
      some ((σ.1 0 2), σ)
    else
      if (x1 : Int32) = 2 then
        some ((σ.1 0 3), σ)
      else
        if (x1 : Int32) = 3 then
          some ((σ.1 0 4), σ)
        else
          if (x1 : Int32) = 4 then
            bd (f9_turnsNow σ) fun r6 =>
            some (r6.1, r6.2)
          else
            if (x1 : Int32) = 5 then
              some ((σ.1 0 29), σ)
            else
              some ((-2), σ)
