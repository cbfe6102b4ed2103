noncomputable def f9_cell_24 (σ : HS) : Option (Int64 × HS) :=
  bd (f9_lost σ) fun r1 =>
  some (r1.1, r1.2)
noncomputable def f9_cell_53 (x1 : Int32) (x2 : Int32) (σ : HS) : Option (Int64 × HS) :=
  bd (f9_noCell x1 x2 σ) fun r1 =>
  if (r1.1 : Int32) ≤ 0 then
    if (((100 * x1) + x2) : Int32) < 0 ∨ 400 ≤ (((100 * x1) + x2) : Int32).toNatClampNeg then none else
    some ((((r1.2).1 23 (((100 * x1) + x2) : Int32).toNatClampNeg) : Int32).toInt64, r1.2)
  else
    bd (f9_noCell x1 x2 (r1.2)) fun r4 =>
    bd (f9_failedLong (r4.1) (r4.2)) fun r5 =>
    some (r5.1, r5.2)
noncomputable def f9_cell (x1 : Int32) (x2 : Int32) (x3 : Int32) (σ : HS) : Option (Int64 × HS) :=
  bd (f9_noSheet x1 (uI σ 0 0 0)) fun r1 =>
  if (r1.1 : Int32) = 0 then
    bd (f9_in ((x3 : Int32).toInt64) 0 2 (r1.2)) fun r3 =>
    if (r3.1 : Int32) = 0 then
      f9_cell_24 (r3.2)
    else
      if (x1 : Int32) < 0 ∨ 4 ≤ (x1 : Int32).toNatClampNeg then none else
      if (((r3.2).1 21 (x1 : Int32).toNatClampNeg) : Int32) < 0 then
        f9_cell_53 x1 x2 (r3.2)
      else
        if (x1 : Int32) < 0 ∨ 4 ≤ (x1 : Int32).toNatClampNeg then none else
        if (((r3.2).1 22 (x1 : Int32).toNatClampNeg) : Int32) = x3 then
          f9_cell_53 x1 x2 (r3.2)
        else
          bd (f9_failedLong 2 (r3.2)) fun r9 =>
          some (r9.1, r9.2)
  else
    f9_cell_24 (r1.2)
set_option maxHeartbeats 4000000 in
set_option maxRecDepth 100000 in
theorem A9_cell_24 {l : Launch} (σ : HS) (r : Int64 × HS) (h : f9_cell_24 σ = some r) : AR l RX9 cX9_cell 4 (some .long) (wsU yX9_cell cX9_cell 4 (some .long)) rm9_cell SM 24 [] [] σ (some (.long r.1), r.2) := by
  unfold f9_cell_24 at h
  obtain ⟨r1, h1, h⟩ := bd_some h
  refine AR.callS (pc := 24) (As := []) (st := []) dX9_cell_24 ⟨cd_X9_lost, sm_X9_lost, ini_X9⟩ ml_X9_88 (A9_lost σ _ h1) ⟨rfl, pd_X9_lost⟩ ⟨Nat.le_of_ble_eq_true rfl, Nat.le_of_ble_eq_true rfl⟩ ⟨rfl, rfl⟩ rfl (Nat.le_of_ble_eq_true rfl) ?_
  exact AR.lret (pc := 27) rfl dX9_cell_27 (hrL (Option.some.inj h))
set_option maxHeartbeats 4000000 in
set_option maxRecDepth 100000 in
theorem A9_cell_53 {l : Launch} (x1 : Int32) (x2 : Int32) (σ : HS) (r : Int64 × HS) (h : f9_cell_53 x1 x2 σ = some r) : AR l RX9 cX9_cell 4 (some .long) (wsU yX9_cell cX9_cell 4 (some .long)) rm9_cell SM 53 [(0, .ref 0), (1, .int x1), (2, .int x2)] [] σ (some (.long r.1), r.2) := by
  unfold f9_cell_53 at h
  refine AR.aload_n (pc := 53) (j := 0) dX9_cell_53 rfl rfl ?_
  refine AR.iload_n (pc := 54) (j := 1) dX9_cell_54 rfl rfl ?_
  refine AR.iload_n (pc := 55) (j := 2) dX9_cell_55 rfl rfl ?_
  obtain ⟨r1, h1, h⟩ := bd_some h
  refine AR.callV (pc := 56) (As := [.int x1, .int x2]) (st := []) (ci := 9) dX9_cell_56 ⟨cd_X9_noCell, im_X9_noCell, se_X9_noCell, ini_X9⟩ ml_X9_289 (A9_noCell x1 x2 σ _ h1) ⟨rfl, pd_X9_noCell⟩ ⟨Nat.le_of_ble_eq_true rfl, Nat.le_of_ble_eq_true rfl⟩ ⟨rfl, rfl⟩ rfl rfl rfl (Nat.le_of_ble_eq_true rfl) ?_
  refine AR.if_le (pc := 59) (tgt := 75) dX9_cell_59 (by decide) (fun c2 => ?_) (fun c2 => ?_)
  · replace h := ite_t c2 h
    refine AR.aload_n (pc := 75) (j := 0) dX9_cell_75 rfl rfl ?_
    refine AR.getf (pc := 76) (ci := 9) (j := 34) (d := 23 + 2) (v := .ref 23) (T := TX9) dX9_cell_76 rfl rfl rfl (by decide) (fun w hw => wsU_in (uw_X9 w hw)) (wsU_in fl_X9_76) rfl ?_
    refine AR.bipush (pc := 79) (v := 100) dX9_cell_79 (by decide) ?_
    refine AR.iload_n (pc := 81) (j := 1) dX9_cell_81 rfl rfl ?_
    refine AR.imul (pc := 82) dX9_cell_82 ?_
    refine AR.iload_n (pc := 83) (j := 2) dX9_cell_83 rfl rfl ?_
    refine AR.iadd (pc := 84) dX9_cell_84 ?_
    obtain ⟨c3, h⟩ := gn_some h
    refine AR.iaload (pc := 85) dX9_cell_85 rfl c3 ?_
    refine AR.i2l (pc := 86) dX9_cell_86 ?_
    exact AR.lret (pc := 87) rfl dX9_cell_87 (hrL (Option.some.inj h))
  · replace h := ite_f c2 h
    refine AR.aload_n (pc := 62) (j := 0) dX9_cell_62 rfl rfl ?_
    refine AR.aload_n (pc := 63) (j := 0) dX9_cell_63 rfl rfl ?_
    refine AR.iload_n (pc := 64) (j := 1) dX9_cell_64 rfl rfl ?_
    refine AR.iload_n (pc := 65) (j := 2) dX9_cell_65 rfl rfl ?_
    obtain ⟨r4, h4, h⟩ := bd_some h
    refine AR.callV (pc := 66) (As := [.int x1, .int x2]) (st := [.ref 0]) (ci := 9) dX9_cell_66 ⟨cd_X9_noCell, im_X9_noCell, se_X9_noCell, ini_X9⟩ ml_X9_289 (A9_noCell x1 x2 (r1.2) _ h4) ⟨rfl, pd_X9_noCell⟩ ⟨Nat.le_of_ble_eq_true rfl, Nat.le_of_ble_eq_true rfl⟩ ⟨rfl, rfl⟩ rfl rfl rfl (Nat.le_of_ble_eq_true rfl) ?_
    obtain ⟨r5, h5, h⟩ := bd_some h
    refine AR.callV (pc := 69) (As := [.int (r4.1)]) (st := []) (ci := 9) dX9_cell_69 ⟨cd_X9_failedLong, im_X9_failedLong, se_X9_failedLong, ini_X9⟩ ml_X9_292 (A9_failedLong (r4.1) (r4.2) _ h5) ⟨rfl, pd_X9_failedLong⟩ ⟨Nat.le_of_ble_eq_true rfl, Nat.le_of_ble_eq_true rfl⟩ ⟨rfl, rfl⟩ rfl rfl rfl (Nat.le_of_ble_eq_true rfl) ?_
    refine AR.goto (pc := 72) (tgt := 87) dX9_cell_72 (by decide) ?_
    exact AR.lret (pc := 87) rfl dX9_cell_87 (hrL (Option.some.inj h))
set_option maxHeartbeats 4000000 in
set_option maxRecDepth 100000 in
theorem A9_cell {l : Launch} (x1 : Int32) (x2 : Int32) (x3 : Int32) (σ : HS) (r : Int64 × HS) (h : f9_cell x1 x2 x3 σ = some r) : MA l yX9_cell (wsU yX9_cell cX9_cell 4 (some .long)) rm9_cell SM [.ref 0, .int x1, .int x2, .int x3] σ (some (.long r.1), r.2) := by
  refine MA.of (L := [(0, .ref 0), (1, .int x1), (2, .int x2), (3, .int x3)]) pn_X9_cell rfl (fun _ => Nat.le_of_ble_eq_true rfl) (fun _ => rfl) ?_
  unfold f9_cell at h
  refine AR.aload_n (pc := 0) (j := 0) dX9_cell_0 rfl rfl ?_
  refine AR.iconst (pc := 1) (v := 0) dX9_cell_1 (by decide) ?_
  refine AR.putI (pc := 2) (ci := 9) (j := 0) (T := TX9) (ty0 := tyX9) (ty := .int) dX9_cell_2 rfl rfl rfl (by decide) (fun w hw => wsU_in (uw_X9 w hw)) tyX9_ok nmX9 (wsU_in fl_X9_84) rfl (by decide +kernel) rfl rfl ?_
  refine AR.iload_n (pc := 5) (j := 1) dX9_cell_5 rfl rfl ?_
  obtain ⟨r1, h1, h⟩ := bd_some h
  refine AR.callS (pc := 6) (As := [.int x1]) (st := []) dX9_cell_6 ⟨cd_X9_noSheet, sm_X9_noSheet, ini_X9⟩ ml_X9_92 (A9_noSheet x1 (uI σ 0 0 0) _ h1) ⟨rfl, pd_X9_noSheet⟩ ⟨Nat.le_of_ble_eq_true rfl, Nat.le_of_ble_eq_true rfl⟩ ⟨rfl, rfl⟩ rfl (Nat.le_of_ble_eq_true rfl) ?_
  refine AR.if_ne (pc := 9) (tgt := 24) dX9_cell_9 (by decide) (fun c2 => ?_) (fun c2 => ?_)
  · replace h := ite_f c2 h
    exact AR.pick [] rfl (A9_cell_24 (r1.2) r h)
  · replace h := ite_t c2 h
    refine AR.iload_n (pc := 12) (j := 3) dX9_cell_12 rfl rfl ?_
    refine AR.i2l (pc := 13) dX9_cell_13 ?_
    refine AR.lconst (pc := 14) (v := 0) dX9_cell_14 (by decide) ?_
    refine AR.ldc2 (pc := 15) (v := 2) dX9_cell_15 (wsU_in kl_X9_100) ?_
    obtain ⟨r3, h3, h⟩ := bd_some h
    refine AR.callS (pc := 18) (As := [.long ((x3 : Int32).toInt64), .long 0, .long 2]) (st := []) dX9_cell_18 ⟨cd_X9_in, sm_X9_in, ini_X9⟩ ml_X9_102 (A9_in ((x3 : Int32).toInt64) 0 2 (r1.2) _ h3) ⟨rfl, pd_X9_in⟩ ⟨Nat.le_of_ble_eq_true rfl, Nat.le_of_ble_eq_true rfl⟩ ⟨rfl, rfl⟩ rfl (Nat.le_of_ble_eq_true rfl) ?_
    refine AR.if_ne (pc := 21) (tgt := 28) dX9_cell_21 (by decide) (fun c4 => ?_) (fun c4 => ?_)
    · replace h := ite_f c4 h
      refine AR.aload_n (pc := 28) (j := 0) dX9_cell_28 rfl rfl ?_
      refine AR.getf (pc := 29) (ci := 9) (j := 32) (d := 21 + 2) (v := .ref 21) (T := TX9) dX9_cell_29 rfl rfl rfl (by decide) (fun w hw => wsU_in (uw_X9 w hw)) (wsU_in fl_X9_70) rfl ?_
      refine AR.iload_n (pc := 32) (j := 1) dX9_cell_32 rfl rfl ?_
      obtain ⟨c5, h⟩ := gn_some h
      refine AR.iaload (pc := 33) dX9_cell_33 rfl c5 ?_
      refine AR.if_lt (pc := 34) (tgt := 53) dX9_cell_34 (by decide) (fun c6 => ?_) (fun c6 => ?_)
      · replace h := ite_t c6 h
        exact AR.pick [0, 1, 2] rfl (A9_cell_53 x1 x2 (r3.2) r h)
      · replace h := ite_f c6 h
        refine AR.aload_n (pc := 37) (j := 0) dX9_cell_37 rfl rfl ?_
        refine AR.getf (pc := 38) (ci := 9) (j := 33) (d := 22 + 2) (v := .ref 22) (T := TX9) dX9_cell_38 rfl rfl rfl (by decide) (fun w hw => wsU_in (uw_X9 w hw)) (wsU_in fl_X9_73) rfl ?_
        refine AR.iload_n (pc := 41) (j := 1) dX9_cell_41 rfl rfl ?_
        obtain ⟨c7, h⟩ := gn_some h
        refine AR.iaload (pc := 42) dX9_cell_42 rfl c7 ?_
        refine AR.iload_n (pc := 43) (j := 3) dX9_cell_43 rfl rfl ?_
        refine AR.icmp_eq (pc := 44) (tgt := 53) dX9_cell_44 (by decide) (fun c8 => ?_) (fun c8 => ?_)
        · replace h := ite_t c8 h
          exact AR.pick [0, 1, 2] rfl (A9_cell_53 x1 x2 (r3.2) r h)
        · replace h := ite_f c8 h
          refine AR.aload_n (pc := 47) (j := 0) dX9_cell_47 rfl rfl ?_
          refine AR.iconst (pc := 48) (v := 2) dX9_cell_48 (by decide) ?_
          obtain ⟨r9, h9, h⟩ := bd_some h
          refine AR.callV (pc := 49) (As := [.int 2]) (st := []) (ci := 9) dX9_cell_49 ⟨cd_X9_failedLong, im_X9_failedLong, se_X9_failedLong, ini_X9⟩ ml_X9_292 (A9_failedLong 2 (r3.2) _ h9) ⟨rfl, pd_X9_failedLong⟩ ⟨Nat.le_of_ble_eq_true rfl, Nat.le_of_ble_eq_true rfl⟩ ⟨rfl, rfl⟩ rfl rfl rfl (Nat.le_of_ble_eq_true rfl) ?_
          exact AR.lret (pc := 52) rfl dX9_cell_52 (hrL (Option.some.inj h))
    · replace h := ite_t c4 h
      exact AR.pick [] rfl (A9_cell_24 (r3.2) r h)
noncomputable def f9_copy_14 (σ : HS) : Option (Int32 × HS) :=
  bd (f9_refused (-1) σ) fun r1 =>
  some (r1.1, r1.2)
noncomputable def f9_copy_38 (σ : HS) : Option (Int32 × HS) :=
  bd (f9_failed 1 σ) fun r1 =>
  some (r1.1, r1.2)
noncomputable def f9_copy_98 (σ : HS) : Option (Int32 × HS) :=
  bd (f9_failed 3 σ) fun r1 =>
  some (r1.1, r1.2)
noncomputable def f9_copy_144_b (k144 : Int32 × HS → Option (Int32 × HS)) (x3 : Int32) (x4 : Int32) (x5 : Int32) (x6 : Int32) (σ : HS) : Option (Int32 × HS) :=
  if (x5 : Int32) ≤ x6 then
    bd (f9_refused x5 σ) fun r2 =>
    some (r2.1, r2.2)
  else
    if (x6 : Int32) < 0 ∨ 100 ≤ (x6 : Int32).toNatClampNeg then none else
    if ((((100 * x3) + x4) + x6) : Int32) < 0 ∨ 400 ≤ ((((100 * x3) + x4) + x6) : Int32).toNatClampNeg then none else
    k144 ((x6 + 1), (uI σ 23 ((((100 * x3) + x4) + x6) : Int32).toNatClampNeg (σ.1 24 (x6 : Int32).toNatClampNeg)))
noncomputable def f9_copy_144 (x3 : Int32) (x4 : Int32) (x5 : Int32) (p : Int32 × HS) : Option (Int32 × HS) :=
  wloop (fun k144 p => f9_copy_144_b k144 x3 x4 x5 p.1 p.2) fuelN p
noncomputable def f9_copy_107_b (k107 : Int32 × HS → Option (Int32 × HS)) (x1 : Int32) (x2 : Int32) (x3 : Int32) (x4 : Int32) (x5 : Int32) (x6 : Int32) (σ : HS) : Option (Int32 × HS) :=
  if (x5 : Int32) ≤ x6 then
    f9_copy_144 x3 x4 x5 (0, σ)
  else
    if ((((100 * x1) + x2) + x6) : Int32) < 0 ∨ 400 ≤ ((((100 * x1) + x2) + x6) : Int32).toNatClampNeg then none else
    if (x6 : Int32) < 0 ∨ 100 ≤ (x6 : Int32).toNatClampNeg then none else
    k107 ((x6 + 1), (uI σ 24 (x6 : Int32).toNatClampNeg (σ.1 23 ((((100 * x1) + x2) + x6) : Int32).toNatClampNeg)))
noncomputable def f9_copy_107 (x1 : Int32) (x2 : Int32) (x3 : Int32) (x4 : Int32) (x5 : Int32) (p : Int32 × HS) : Option (Int32 × HS) :=
  wloop (fun k107 p => f9_copy_107_b k107 x1 x2 x3 x4 x5 p.1 p.2) fuelN p
noncomputable def f9_copy (x1 : Int32) (x2 : Int32) (x3 : Int32) (x4 : Int32) (x5 : Int32) (σ : HS) : Option (Int32 × HS) :=
  bd (f9_noSheet x1 σ) fun r1 =>
  if (r1.1 : Int32) = 0 then
    bd (f9_noSheet x3 (r1.2)) fun r3 =>
    if (r3.1 : Int32) = 0 then
      if (x1 : Int32) < 0 ∨ 4 ≤ (x1 : Int32).toNatClampNeg then none else
      if (((r3.2).1 21 (x1 : Int32).toNatClampNeg) : Int32) < 0 then
        f9_copy_38 (r3.2)
      else
        if (x3 : Int32) < 0 ∨ 4 ≤ (x3 : Int32).toNatClampNeg then none else
        if 0 ≤ (((r3.2).1 21 (x3 : Int32).toNatClampNeg) : Int32) then
          if (x1 : Int32) < 0 ∨ 4 ≤ (x1 : Int32).toNatClampNeg then none else
          if (x3 : Int32) < 0 ∨ 4 ≤ (x3 : Int32).toNatClampNeg then none else
          if (((r3.2).1 22 (x1 : Int32).toNatClampNeg) : Int32) = ((r3.2).1 22 (x3 : Int32).toNatClampNeg) then
            if (x1 : Int32) < 0 ∨ 4 ≤ (x1 : Int32).toNatClampNeg then none else
            bd (f9_isBeyond x2 ((x5 : Int32).toInt64) ((r3.2).1 21 (x1 : Int32).toNatClampNeg) (r3.2)) fun r13 =>
            if (r13.1 : Int32) = 0 then
              if (x3 : Int32) < 0 ∨ 4 ≤ (x3 : Int32).toNatClampNeg then none else
              bd (f9_isBeyond x4 ((x5 : Int32).toInt64) ((r13.2).1 21 (x3 : Int32).toNatClampNeg) (r13.2)) fun r16 =>
              if (r16.1 : Int32) = 0 then
                f9_copy_107 x1 x2 x3 x4 x5 (0, r16.2)
              else
                f9_copy_98 (r16.2)
            else
              f9_copy_98 (r13.2)
          else
            bd (f9_failed 2 (r3.2)) fun r18 =>
            some (r18.1, r18.2)
        else
          f9_copy_38 (r3.2)
    else
      f9_copy_14 (r3.2)
  else
    f9_copy_14 (r1.2)
set_option maxHeartbeats 4000000 in
set_option maxRecDepth 100000 in
theorem A9_copy_14 {l : Launch} (σ : HS) (r : Int32 × HS) (h : f9_copy_14 σ = some r) : AR l RX9 cX9_copy 7 (some .int) (wsU yX9_copy cX9_copy 7 (some .int)) rm9_copy SM 14 [(0, .ref 0)] [] σ (some (.int r.1), r.2) := by
  unfold f9_copy_14 at h
  refine AR.aload_n (pc := 14) (j := 0) dX9_copy_14 rfl rfl ?_
  refine AR.iconst (pc := 15) (v := (-1)) dX9_copy_15 (by decide) ?_
  obtain ⟨r1, h1, h⟩ := bd_some h
  refine AR.callV (pc := 16) (As := [.int (-1)]) (st := []) (ci := 9) dX9_copy_16 ⟨cd_X9_refused, im_X9_refused, se_X9_refused, ini_X9⟩ ml_X9_96 (A9_refused (-1) σ _ h1) ⟨rfl, pd_X9_refused⟩ ⟨Nat.le_of_ble_eq_true rfl, Nat.le_of_ble_eq_true rfl⟩ ⟨rfl, rfl⟩ rfl rfl rfl (Nat.le_of_ble_eq_true rfl) ?_
  exact AR.iret (pc := 19) rfl dX9_copy_19 (hrI (Option.some.inj h))
set_option maxHeartbeats 4000000 in
set_option maxRecDepth 100000 in
theorem A9_copy_38 {l : Launch} (σ : HS) (r : Int32 × HS) (h : f9_copy_38 σ = some r) : AR l RX9 cX9_copy 7 (some .int) (wsU yX9_copy cX9_copy 7 (some .int)) rm9_copy SM 38 [(0, .ref 0)] [] σ (some (.int r.1), r.2) := by
  unfold f9_copy_38 at h
  refine AR.aload_n (pc := 38) (j := 0) dX9_copy_38 rfl rfl ?_
  refine AR.iconst (pc := 39) (v := 1) dX9_copy_39 (by decide) ?_
  obtain ⟨r1, h1, h⟩ := bd_some h
  refine AR.callV (pc := 40) (As := [.int 1]) (st := []) (ci := 9) dX9_copy_40 ⟨cd_X9_failed, im_X9_failed, se_X9_failed, ini_X9⟩ ml_X9_106 (A9_failed 1 σ _ h1) ⟨rfl, pd_X9_failed⟩ ⟨Nat.le_of_ble_eq_true rfl, Nat.le_of_ble_eq_true rfl⟩ ⟨rfl, rfl⟩ rfl rfl rfl (Nat.le_of_ble_eq_true rfl) ?_
  exact AR.iret (pc := 43) rfl dX9_copy_43 (hrI (Option.some.inj h))
set_option maxHeartbeats 4000000 in
set_option maxRecDepth 100000 in
theorem A9_copy_98 {l : Launch} (σ : HS) (r : Int32 × HS) (h : f9_copy_98 σ = some r) : AR l RX9 cX9_copy 7 (some .int) (wsU yX9_copy cX9_copy 7 (some .int)) rm9_copy SM 98 [(0, .ref 0)] [] σ (some (.int r.1), r.2) := by
  unfold f9_copy_98 at h
  refine AR.aload_n (pc := 98) (j := 0) dX9_copy_98 rfl rfl ?_
  refine AR.iconst (pc := 99) (v := 3) dX9_copy_99 (by decide) ?_
  obtain ⟨r1, h1, h⟩ := bd_some h
  refine AR.callV (pc := 100) (As := [.int 3]) (st := []) (ci := 9) dX9_copy_100 ⟨cd_X9_failed, im_X9_failed, se_X9_failed, ini_X9⟩ ml_X9_106 (A9_failed 3 σ _ h1) ⟨rfl, pd_X9_failed⟩ ⟨Nat.le_of_ble_eq_true rfl, Nat.le_of_ble_eq_true rfl⟩ ⟨rfl, rfl⟩ rfl rfl rfl (Nat.le_of_ble_eq_true rfl) ?_
  exact AR.iret (pc := 103) rfl dX9_copy_103 (hrI (Option.some.inj h))
set_option maxHeartbeats 4000000 in
set_option maxRecDepth 100000 in
theorem A9_copy_144_b {l : Launch} (k144 : Int32 × HS → Option (Int32 × HS)) (x3 : Int32) (x4 : Int32) (x5 : Int32) (x6 : Int32) (hk144 : ∀ (p : Int32 × HS) (r : Int32 × HS), k144 p = some r → AR l RX9 cX9_copy 7 (some .int) (wsU yX9_copy cX9_copy 7 (some .int)) rm9_copy SM 144 [(0, .ref 0), (3, .int x3), (4, .int x4), (5, .int x5), (6, .int (p.1))] [] p.2 (some (.int r.1), r.2)) (σ : HS) (r : Int32 × HS) (h : f9_copy_144_b k144 x3 x4 x5 x6 σ = some r) : AR l RX9 cX9_copy 7 (some .int) (wsU yX9_copy cX9_copy 7 (some .int)) rm9_copy SM 144 [(0, .ref 0), (3, .int x3), (4, .int x4), (5, .int x5), (6, .int x6)] [] σ (some (.int r.1), r.2) := by
  unfold f9_copy_144_b at h
  refine AR.iload (pc := 144) (j := 4) dX9_copy_144 rfl ?_
  refine AR.iload (pc := 146) (j := 3) dX9_copy_146 rfl ?_
  refine AR.icmp_ge (pc := 148) (tgt := 179) dX9_copy_148 (by decide) (fun c1 => ?_) (fun c1 => ?_)
  · replace h := ite_t c1 h
    refine AR.aload_n (pc := 179) (j := 0) dX9_copy_179 rfl rfl ?_
    refine AR.iload (pc := 180) (j := 3) dX9_copy_180 rfl ?_
    obtain ⟨r2, h2, h⟩ := bd_some h
    refine AR.callV (pc := 182) (As := [.int x5]) (st := []) (ci := 9) dX9_copy_182 ⟨cd_X9_refused, im_X9_refused, se_X9_refused, ini_X9⟩ ml_X9_96 (A9_refused x5 σ _ h2) ⟨rfl, pd_X9_refused⟩ ⟨Nat.le_of_ble_eq_true rfl, Nat.le_of_ble_eq_true rfl⟩ ⟨rfl, rfl⟩ rfl rfl rfl (Nat.le_of_ble_eq_true rfl) ?_
    exact AR.iret (pc := 185) rfl dX9_copy_185 (hrI (Option.some.inj h))
  · replace h := ite_f c1 h
    refine AR.aload_n (pc := 151) (j := 0) dX9_copy_151 rfl rfl ?_
    refine AR.getf (pc := 152) (ci := 9) (j := 34) (d := 23 + 2) (v := .ref 23) (T := TX9) dX9_copy_152 rfl rfl rfl (by decide) (fun w hw => wsU_in (uw_X9 w hw)) (wsU_in fl_X9_76) rfl ?_
    refine AR.bipush (pc := 155) (v := 100) dX9_copy_155 (by decide) ?_
    refine AR.iload_n (pc := 157) (j := 1) dX9_copy_157 rfl rfl ?_
    refine AR.imul (pc := 158) dX9_copy_158 ?_
    refine AR.iload (pc := 159) (j := 2) dX9_copy_159 rfl ?_
    refine AR.iadd (pc := 161) dX9_copy_161 ?_
    refine AR.iload (pc := 162) (j := 4) dX9_copy_162 rfl ?_
    refine AR.iadd (pc := 164) dX9_copy_164 ?_
    refine AR.aload_n (pc := 165) (j := 0) dX9_copy_165 rfl rfl ?_
    refine AR.getf (pc := 166) (ci := 9) (j := 35) (d := 24 + 2) (v := .ref 24) (T := TX9) dX9_copy_166 rfl rfl rfl (by decide) (fun w hw => wsU_in (uw_X9 w hw)) (wsU_in fl_X9_79) rfl ?_
    refine AR.iload (pc := 169) (j := 4) dX9_copy_169 rfl ?_
    obtain ⟨c3, h⟩ := gn_some h
    refine AR.iaload (pc := 171) dX9_copy_171 rfl c3 ?_
    obtain ⟨c4, h⟩ := gn_some h
    refine AR.iastore (pc := 172) dX9_copy_172 rfl c4 ?_
    refine AR.iinc (pc := 173) (j := 4) (v := (x6 + 1)) (L2 := [(6, .int (x6 + 1)), (0, .ref 0), (3, .int x3), (4, .int x4), (5, .int x5)]) dX9_copy_173 rfl rfl (by decide) rfl ?_
    refine AR.goto (pc := 176) (tgt := 144) dX9_copy_176 (by decide) ?_
    exact AR.pick [1, 2, 3, 4, 0] rfl (hk144 ((x6 + 1), (uI σ 23 ((((100 * x3) + x4) + x6) : Int32).toNatClampNeg (σ.1 24 (x6 : Int32).toNatClampNeg))) r h)
theorem A9_copy_144 {l : Launch} (x3 : Int32) (x4 : Int32) (x5 : Int32) (p : Int32 × HS) (r : Int32 × HS) (h : f9_copy_144 x3 x4 x5 p = some r) : AR l RX9 cX9_copy 7 (some .int) (wsU yX9_copy cX9_copy 7 (some .int)) rm9_copy SM 144 [(0, .ref 0), (3, .int x3), (4, .int x4), (5, .int x5), (6, .int (p.1))] [] p.2 (some (.int r.1), r.2) := by
  unfold f9_copy_144 at h
  exact wloop_run (body := fun k144 p => f9_copy_144_b k144 x3 x4 x5 p.1 p.2) (Q := fun p r => AR l RX9 cX9_copy 7 (some .int) (wsU yX9_copy cX9_copy 7 (some .int)) rm9_copy SM 144 [(0, .ref 0), (3, .int x3), (4, .int x4), (5, .int x5), (6, .int (p.1))] [] p.2 (some (.int r.1), r.2)) (fun k144 hk144 p r h => A9_copy_144_b k144 x3 x4 x5 p.1 hk144 p.2 r h) fuelN p r h
set_option maxHeartbeats 4000000 in
set_option maxRecDepth 100000 in
theorem A9_copy_107_b {l : Launch} (k107 : Int32 × HS → Option (Int32 × HS)) (x1 : Int32) (x2 : Int32) (x3 : Int32) (x4 : Int32) (x5 : Int32) (x6 : Int32) (hk107 : ∀ (p : Int32 × HS) (r : Int32 × HS), k107 p = some r → AR l RX9 cX9_copy 7 (some .int) (wsU yX9_copy cX9_copy 7 (some .int)) rm9_copy SM 107 [(0, .ref 0), (1, .int x1), (2, .int x2), (3, .int x3), (4, .int x4), (5, .int x5), (6, .int (p.1))] [] p.2 (some (.int r.1), r.2)) (σ : HS) (r : Int32 × HS) (h : f9_copy_107_b k107 x1 x2 x3 x4 x5 x6 σ = some r) : AR l RX9 cX9_copy 7 (some .int) (wsU yX9_copy cX9_copy 7 (some .int)) rm9_copy SM 107 [(0, .ref 0), (1, .int x1), (2, .int x2), (3, .int x3), (4, .int x4), (5, .int x5), (6, .int x6)] [] σ (some (.int r.1), r.2) := by
  unfold f9_copy_107_b at h
  refine AR.iload (pc := 107) (j := 6) dX9_copy_107 rfl ?_
  refine AR.iload (pc := 109) (j := 5) dX9_copy_109 rfl ?_
  refine AR.icmp_ge (pc := 111) (tgt := 141) dX9_copy_111 (by decide) (fun c1 => ?_) (fun c1 => ?_)
  · replace h := ite_t c1 h
    refine AR.iconst (pc := 141) (v := 0) dX9_copy_141 (by decide) ?_
    refine AR.istore (pc := 142) (L2 := [(6, .int 0), (0, .ref 0), (1, .int x1), (2, .int x2), (3, .int x3), (4, .int x4), (5, .int x5)]) dX9_copy_142 (by decide) rfl ?_
    exact AR.pick [1, 4, 5, 6, 0] rfl (A9_copy_144 x3 x4 x5 (0, σ) r h)
  · replace h := ite_f c1 h
    refine AR.aload_n (pc := 114) (j := 0) dX9_copy_114 rfl rfl ?_
    refine AR.getf (pc := 115) (ci := 9) (j := 35) (d := 24 + 2) (v := .ref 24) (T := TX9) dX9_copy_115 rfl rfl rfl (by decide) (fun w hw => wsU_in (uw_X9 w hw)) (wsU_in fl_X9_79) rfl ?_
    refine AR.iload (pc := 118) (j := 6) dX9_copy_118 rfl ?_
    refine AR.aload_n (pc := 120) (j := 0) dX9_copy_120 rfl rfl ?_
    refine AR.getf (pc := 121) (ci := 9) (j := 34) (d := 23 + 2) (v := .ref 23) (T := TX9) dX9_copy_121 rfl rfl rfl (by decide) (fun w hw => wsU_in (uw_X9 w hw)) (wsU_in fl_X9_76) rfl ?_
    refine AR.bipush (pc := 124) (v := 100) dX9_copy_124 (by decide) ?_
    refine AR.iload_n (pc := 126) (j := 1) dX9_copy_126 rfl rfl ?_
    refine AR.imul (pc := 127) dX9_copy_127 ?_
    refine AR.iload_n (pc := 128) (j := 2) dX9_copy_128 rfl rfl ?_
    refine AR.iadd (pc := 129) dX9_copy_129 ?_
    refine AR.iload (pc := 130) (j := 6) dX9_copy_130 rfl ?_
    refine AR.iadd (pc := 132) dX9_copy_132 ?_
    obtain ⟨c2, h⟩ := gn_some h
    refine AR.iaload (pc := 133) dX9_copy_133 rfl c2 ?_
    obtain ⟨c3, h⟩ := gn_some h
    refine AR.iastore (pc := 134) dX9_copy_134 rfl c3 ?_
    refine AR.iinc (pc := 135) (j := 6) (v := (x6 + 1)) (L2 := [(6, .int (x6 + 1)), (0, .ref 0), (1, .int x1), (2, .int x2), (3, .int x3), (4, .int x4), (5, .int x5)]) dX9_copy_135 rfl rfl (by decide) rfl ?_
    refine AR.goto (pc := 138) (tgt := 107) dX9_copy_138 (by decide) ?_
    exact AR.pick [1, 2, 3, 4, 5, 6, 0] rfl (hk107 ((x6 + 1), (uI σ 24 (x6 : Int32).toNatClampNeg (σ.1 23 ((((100 * x1) + x2) + x6) : Int32).toNatClampNeg))) r h)
theorem A9_copy_107 {l : Launch} (x1 : Int32) (x2 : Int32) (x3 : Int32) (x4 : Int32) (x5 : Int32) (p : Int32 × HS) (r : Int32 × HS) (h : f9_copy_107 x1 x2 x3 x4 x5 p = some r) : AR l RX9 cX9_copy 7 (some .int) (wsU yX9_copy cX9_copy 7 (some .int)) rm9_copy SM 107 [(0, .ref 0), (1, .int x1), (2, .int x2), (3, .int x3), (4, .int x4), (5, .int x5), (6, .int (p.1))] [] p.2 (some (.int r.1), r.2) := by
  unfold f9_copy_107 at h
  exact wloop_run (body := fun k107 p => f9_copy_107_b k107 x1 x2 x3 x4 x5 p.1 p.2) (Q := fun p r => AR l RX9 cX9_copy 7 (some .int) (wsU yX9_copy cX9_copy 7 (some .int)) rm9_copy SM 107 [(0, .ref 0), (1, .int x1), (2, .int x2), (3, .int x3), (4, .int x4), (5, .int x5), (6, .int (p.1))] [] p.2 (some (.int r.1), r.2)) (fun k107 hk107 p r h => A9_copy_107_b k107 x1 x2 x3 x4 x5 p.1 hk107 p.2 r h) fuelN p r h
set_option maxHeartbeats 4000000 in
set_option maxRecDepth 100000 in
theorem A9_copy {l : Launch} (x1 : Int32) (x2 : Int32) (x3 : Int32) (x4 : Int32) (x5 : Int32) (σ : HS) (r : Int32 × HS) (h : f9_copy x1 x2 x3 x4 x5 σ = some r) : MA l yX9_copy (wsU yX9_copy cX9_copy 7 (some .int)) rm9_copy SM [.ref 0, .int x1, .int x2, .int x3, .int x4, .int x5] σ (some (.int r.1), r.2) := by
  refine MA.of (L := [(0, .ref 0), (1, .int x1), (2, .int x2), (3, .int x3), (4, .int x4), (5, .int x5)]) pn_X9_copy rfl (fun _ => Nat.le_of_ble_eq_true rfl) (fun _ => rfl) ?_
  unfold f9_copy at h
  refine AR.iload_n (pc := 0) (j := 1) dX9_copy_0 rfl rfl ?_
  obtain ⟨r1, h1, h⟩ := bd_some h
  refine AR.callS (pc := 1) (As := [.int x1]) (st := []) dX9_copy_1 ⟨cd_X9_noSheet, sm_X9_noSheet, ini_X9⟩ ml_X9_92 (A9_noSheet x1 σ _ h1) ⟨rfl, pd_X9_noSheet⟩ ⟨Nat.le_of_ble_eq_true rfl, Nat.le_of_ble_eq_true rfl⟩ ⟨rfl, rfl⟩ rfl (Nat.le_of_ble_eq_true rfl) ?_
  refine AR.if_ne (pc := 4) (tgt := 14) dX9_copy_4 (by decide) (fun c2 => ?_) (fun c2 => ?_)
  · replace h := ite_f c2 h
    exact AR.pick [0] rfl (A9_copy_14 (r1.2) r h)
  · replace h := ite_t c2 h
    refine AR.iload_n (pc := 7) (j := 3) dX9_copy_7 rfl rfl ?_
    obtain ⟨r3, h3, h⟩ := bd_some h
    refine AR.callS (pc := 8) (As := [.int x3]) (st := []) dX9_copy_8 ⟨cd_X9_noSheet, sm_X9_noSheet, ini_X9⟩ ml_X9_92 (A9_noSheet x3 (r1.2) _ h3) ⟨rfl, pd_X9_noSheet⟩ ⟨Nat.le_of_ble_eq_true rfl, Nat.le_of_ble_eq_true rfl⟩ ⟨rfl, rfl⟩ rfl (Nat.le_of_ble_eq_true rfl) ?_
    refine AR.if_eq (pc := 11) (tgt := 20) dX9_copy_11 (by decide) (fun c4 => ?_) (fun c4 => ?_)
    · replace h := ite_t c4 h
      refine AR.aload_n (pc := 20) (j := 0) dX9_copy_20 rfl rfl ?_
      refine AR.getf (pc := 21) (ci := 9) (j := 32) (d := 21 + 2) (v := .ref 21) (T := TX9) dX9_copy_21 rfl rfl rfl (by decide) (fun w hw => wsU_in (uw_X9 w hw)) (wsU_in fl_X9_70) rfl ?_
      refine AR.iload_n (pc := 24) (j := 1) dX9_copy_24 rfl rfl ?_
      obtain ⟨c5, h⟩ := gn_some h
      refine AR.iaload (pc := 25) dX9_copy_25 rfl c5 ?_
      refine AR.if_lt (pc := 26) (tgt := 38) dX9_copy_26 (by decide) (fun c6 => ?_) (fun c6 => ?_)
      · replace h := ite_t c6 h
        exact AR.pick [0] rfl (A9_copy_38 (r3.2) r h)
      · replace h := ite_f c6 h
        refine AR.aload_n (pc := 29) (j := 0) dX9_copy_29 rfl rfl ?_
        refine AR.getf (pc := 30) (ci := 9) (j := 32) (d := 21 + 2) (v := .ref 21) (T := TX9) dX9_copy_30 rfl rfl rfl (by decide) (fun w hw => wsU_in (uw_X9 w hw)) (wsU_in fl_X9_70) rfl ?_
        refine AR.iload_n (pc := 33) (j := 3) dX9_copy_33 rfl rfl ?_
        obtain ⟨c7, h⟩ := gn_some h
        refine AR.iaload (pc := 34) dX9_copy_34 rfl c7 ?_
        refine AR.if_ge (pc := 35) (tgt := 44) dX9_copy_35 (by decide) (fun c8 => ?_) (fun c8 => ?_)
        · replace h := ite_t c8 h
          refine AR.aload_n (pc := 44) (j := 0) dX9_copy_44 rfl rfl ?_
          refine AR.getf (pc := 45) (ci := 9) (j := 33) (d := 22 + 2) (v := .ref 22) (T := TX9) dX9_copy_45 rfl rfl rfl (by decide) (fun w hw => wsU_in (uw_X9 w hw)) (wsU_in fl_X9_73) rfl ?_
          refine AR.iload_n (pc := 48) (j := 1) dX9_copy_48 rfl rfl ?_
          obtain ⟨c9, h⟩ := gn_some h
          refine AR.iaload (pc := 49) dX9_copy_49 rfl c9 ?_
          refine AR.aload_n (pc := 50) (j := 0) dX9_copy_50 rfl rfl ?_
          refine AR.getf (pc := 51) (ci := 9) (j := 33) (d := 22 + 2) (v := .ref 22) (T := TX9) dX9_copy_51 rfl rfl rfl (by decide) (fun w hw => wsU_in (uw_X9 w hw)) (wsU_in fl_X9_73) rfl ?_
          refine AR.iload_n (pc := 54) (j := 3) dX9_copy_54 rfl rfl ?_
          obtain ⟨c10, h⟩ := gn_some h
          refine AR.iaload (pc := 55) dX9_copy_55 rfl c10 ?_
          refine AR.icmp_eq (pc := 56) (tgt := 65) dX9_copy_56 (by decide) (fun c11 => ?_) (fun c11 => ?_)
          · replace h := ite_t c11 h
            refine AR.iload_n (pc := 65) (j := 2) dX9_copy_65 rfl rfl ?_
            refine AR.iload (pc := 66) (j := 5) dX9_copy_66 rfl ?_
            refine AR.i2l (pc := 68) dX9_copy_68 ?_
            refine AR.aload_n (pc := 69) (j := 0) dX9_copy_69 rfl rfl ?_
            refine AR.getf (pc := 70) (ci := 9) (j := 32) (d := 21 + 2) (v := .ref 21) (T := TX9) dX9_copy_70 rfl rfl rfl (by decide) (fun w hw => wsU_in (uw_X9 w hw)) (wsU_in fl_X9_70) rfl ?_
            refine AR.iload_n (pc := 73) (j := 1) dX9_copy_73 rfl rfl ?_
            obtain ⟨c12, h⟩ := gn_some h
            refine AR.iaload (pc := 74) dX9_copy_74 rfl c12 ?_
            obtain ⟨r13, h13, h⟩ := bd_some h
            refine AR.callS (pc := 75) (As := [.int x2, .long ((x5 : Int32).toInt64), .int ((r3.2).1 21 (x1 : Int32).toNatClampNeg)]) (st := []) dX9_copy_75 ⟨cd_X9_isBeyond, sm_X9_isBeyond, ini_X9⟩ ml_X9_109 (A9_isBeyond x2 ((x5 : Int32).toInt64) ((r3.2).1 21 (x1 : Int32).toNatClampNeg) (r3.2) _ h13) ⟨rfl, pd_X9_isBeyond⟩ ⟨Nat.le_of_ble_eq_true rfl, Nat.le_of_ble_eq_true rfl⟩ ⟨rfl, rfl⟩ rfl (Nat.le_of_ble_eq_true rfl) ?_
            refine AR.if_ne (pc := 78) (tgt := 98) dX9_copy_78 (by decide) (fun c14 => ?_) (fun c14 => ?_)
            · replace h := ite_f c14 h
              exact AR.pick [0] rfl (A9_copy_98 (r13.2) r h)
            · replace h := ite_t c14 h
              refine AR.iload (pc := 81) (j := 4) dX9_copy_81 rfl ?_
              refine AR.iload (pc := 83) (j := 5) dX9_copy_83 rfl ?_
              refine AR.i2l (pc := 85) dX9_copy_85 ?_
              refine AR.aload_n (pc := 86) (j := 0) dX9_copy_86 rfl rfl ?_
              refine AR.getf (pc := 87) (ci := 9) (j := 32) (d := 21 + 2) (v := .ref 21) (T := TX9) dX9_copy_87 rfl rfl rfl (by decide) (fun w hw => wsU_in (uw_X9 w hw)) (wsU_in fl_X9_70) rfl ?_
              refine AR.iload_n (pc := 90) (j := 3) dX9_copy_90 rfl rfl ?_
              obtain ⟨c15, h⟩ := gn_some h
              refine AR.iaload (pc := 91) dX9_copy_91 rfl c15 ?_
              obtain ⟨r16, h16, h⟩ := bd_some h
              refine AR.callS (pc := 92) (As := [.int x4, .long ((x5 : Int32).toInt64), .int ((r13.2).1 21 (x3 : Int32).toNatClampNeg)]) (st := []) dX9_copy_92 ⟨cd_X9_isBeyond, sm_X9_isBeyond, ini_X9⟩ ml_X9_109 (A9_isBeyond x4 ((x5 : Int32).toInt64) ((r13.2).1 21 (x3 : Int32).toNatClampNeg) (r13.2) _ h16) ⟨rfl, pd_X9_isBeyond⟩ ⟨Nat.le_of_ble_eq_true rfl, Nat.le_of_ble_eq_true rfl⟩ ⟨rfl, rfl⟩ rfl (Nat.le_of_ble_eq_true rfl) ?_
              refine AR.if_eq (pc := 95) (tgt := 104) dX9_copy_95 (by decide) (fun c17 => ?_) (fun c17 => ?_)
              · replace h := ite_t c17 h
                refine AR.iconst (pc := 104) (v := 0) dX9_copy_104 (by decide) ?_
                refine AR.istore (pc := 105) (L2 := [(6, .int 0), (0, .ref 0), (1, .int x1), (2, .int x2), (3, .int x3), (4, .int x4), (5, .int x5)]) dX9_copy_105 (by decide) rfl ?_
                exact AR.pick [1, 2, 3, 4, 5, 6, 0] rfl (A9_copy_107 x1 x2 x3 x4 x5 (0, r16.2) r h)
              · replace h := ite_f c17 h
                exact AR.pick [0] rfl (A9_copy_98 (r16.2) r h)
          · replace h := ite_f c11 h
            refine AR.aload_n (pc := 59) (j := 0) dX9_copy_59 rfl rfl ?_
            refine AR.iconst (pc := 60) (v := 2) dX9_copy_60 (by decide) ?_
            obtain ⟨r18, h18, h⟩ := bd_some h
            refine AR.callV (pc := 61) (As := [.int 2]) (st := []) (ci := 9) dX9_copy_61 ⟨cd_X9_failed, im_X9_failed, se_X9_failed, ini_X9⟩ ml_X9_106 (A9_failed 2 (r3.2) _ h18) ⟨rfl, pd_X9_failed⟩ ⟨Nat.le_of_ble_eq_true rfl, Nat.le_of_ble_eq_true rfl⟩ ⟨rfl, rfl⟩ rfl rfl rfl (Nat.le_of_ble_eq_true rfl) ?_
            exact AR.iret (pc := 64) rfl dX9_copy_64 (hrI (Option.some.inj h))
        · replace h := ite_f c8 h
          exact AR.pick [0] rfl (A9_copy_38 (r3.2) r h)
    · replace h := ite_f c4 h
      exact AR.pick [0] rfl (A9_copy_14 (r3.2) r h)
noncomputable def f9_traced (x1 : Int32) (σ : HS) : Option (HS) :=
  some (uI σ 0 36 ((31 * (σ.1 0 36)) + x1))
set_option maxHeartbeats 4000000 in
set_option maxRecDepth 100000 in
theorem A9_traced {l : Launch} (x1 : Int32) (σ : HS) (r : HS) (h : f9_traced x1 σ = some r) : MA l yX9_traced (wsU yX9_traced cX9_traced 2 none) rm9_traced SM [.ref 0, .int x1] σ (none, r) := by
  refine MA.of (L := [(0, .ref 0), (1, .int x1)]) pn_X9_traced rfl (fun _ => Nat.le_of_ble_eq_true rfl) (fun _ => rfl) ?_
  unfold f9_traced at h
  refine AR.aload_n (pc := 0) (j := 0) dX9_traced_0 rfl rfl ?_
  refine AR.bipush (pc := 1) (v := 31) dX9_traced_1 (by decide) ?_
  refine AR.aload_n (pc := 3) (j := 0) dX9_traced_3 rfl rfl ?_
  refine AR.getf (pc := 4) (ci := 9) (j := 36) (d := 0) (v := .int (σ.1 0 36)) (T := TX9) dX9_traced_4 rfl rfl rfl (by decide) (fun w hw => wsU_in (uw_X9 w hw)) (wsU_in fl_X9_296) rfl ?_
  refine AR.imul (pc := 7) dX9_traced_7 ?_
  refine AR.iload_n (pc := 8) (j := 1) dX9_traced_8 rfl rfl ?_
  refine AR.iadd (pc := 9) dX9_traced_9 ?_
  refine AR.putI (pc := 10) (ci := 9) (j := 36) (T := TX9) (ty0 := tyX9) (ty := .int) dX9_traced_10 rfl rfl rfl (by decide) (fun w hw => wsU_in (uw_X9 w hw)) tyX9_ok nmX9 (wsU_in fl_X9_296) rfl (by decide +kernel) rfl rfl ?_
  exact AR.vret (pc := 13) rfl dX9_traced_13 (hrV (Option.some.inj h))
noncomputable def f9_tell_51 (x1 : Int32) (x2 : Int32) (σ : HS) : Option (Int32 × HS) :=
  if (x1 : Int32) < 0 ∨ 5 ≤ (x1 : Int32).toNatClampNeg then none else
  if (x2 : Int32) = 0 then
    some ((σ.1 2 (x1 : Int32).toNatClampNeg), σ)
  else
    if (x2 : Int32) = 1 then
      some (((σ.1 2 (x1 : Int32).toNatClampNeg) + 100), σ)
    else
      some (((2 * (σ.1 2 (x1 : Int32).toNatClampNeg)) + 100), σ)
noncomputable def f9_tell_36 (x1 : Int32) (x2 : Int32) (σ : HS) : Option (Int32 × HS) :=
  bd (f9_traced 1 σ) fun r1 =>
  if (x2 : Int32) = 2 then
    bd (f9_traced 1 r1) fun r3 =>
    f9_tell_51 x1 x2 r3
  else
    f9_tell_51 x1 x2 r1
noncomputable def f9_tell_27 (x1 : Int32) (x2 : Int32) (σ : HS) : Option (Int32 × HS) :=
  if (x2 : Int32) ≤ 0 then
    f9_tell_36 x1 x2 σ
  else
    bd (f9_traced 2 σ) fun r2 =>
    f9_tell_36 x1 x2 r2
noncomputable def f9_tell (x1 : Int32) (σ : HS) : Option (Int32 × HS) :=
  bd (f9_noSpeaker x1 σ) fun r1 =>
  if (r1.1 : Int32) = 0 then
    if (x1 : Int32) < 0 ∨ 5 ≤ (x1 : Int32).toNatClampNeg then none else
    if (((r1.2).1 1 (x1 : Int32).toNatClampNeg) : Int32) = 2 then
      bd (f9_traced 3 (r1.2)) fun r5 =>
      f9_tell_27 x1 ((r1.2).1 1 (x1 : Int32).toNatClampNeg) r5
    else
      f9_tell_27 x1 ((r1.2).1 1 (x1 : Int32).toNatClampNeg) (r1.2)
  else
    some ((-1), r1.2)
set_option maxHeartbeats 4000000 in
set_option maxRecDepth 100000 in
theorem A9_tell_51 {l : Launch} (x1 : Int32) (x2 : Int32) (σ : HS) (r : Int32 × HS) (h : f9_tell_51 x1 x2 σ = some r) : AR l RX9 cX9_tell 4 (some .int) (wsU yX9_tell cX9_tell 4 (some .int)) rm9_tell SM 51 [(0, .ref 0), (1, .int x1), (2, .int x2)] [] σ (some (.int r.1), r.2) := by
  unfold f9_tell_51 at h
  refine AR.aload_n (pc := 51) (j := 0) dX9_tell_51 rfl rfl ?_
  refine AR.getf (pc := 52) (ci := 9) (j := 6) (d := 2 + 2) (v := .ref 2) (T := TX9) dX9_tell_52 rfl rfl rfl (by decide) (fun w hw => wsU_in (uw_X9 w hw)) (wsU_in fl_X9_13) rfl ?_
  refine AR.iload_n (pc := 55) (j := 1) dX9_tell_55 rfl rfl ?_
  obtain ⟨c1, h⟩ := gn_some h
  refine AR.iaload (pc := 56) dX9_tell_56 rfl c1 ?_
  refine AR.istore_n (pc := 57) (L2 := [(3, .int (σ.1 2 (x1 : Int32).toNatClampNeg)), (0, .ref 0), (1, .int x1), (2, .int x2)]) dX9_tell_57 rfl (by decide) rfl ?_
  refine AR.iload_n (pc := 58) (j := 3) dX9_tell_58 rfl rfl ?_
  refine AR.if_ne (pc := 59) (tgt := 66) dX9_tell_59 (by decide) (fun c2 => ?_) (fun c2 => ?_)
  · replace h := ite_f c2 h
    refine AR.iload_n (pc := 66) (j := 3) dX9_tell_66 rfl rfl ?_
    refine AR.iconst (pc := 67) (v := 1) dX9_tell_67 (by decide) ?_
    refine AR.icmp_ne (pc := 68) (tgt := 78) dX9_tell_68 (by decide) (fun c3 => ?_) (fun c3 => ?_)
    · replace h := ite_f c3 h
      refine AR.iconst (pc := 78) (v := 2) dX9_tell_78 (by decide) ?_
      refine AR.iload_n (pc := 79) (j := 0) dX9_tell_79 rfl rfl ?_
      refine AR.imul (pc := 80) dX9_tell_80 ?_
      refine AR.bipush (pc := 81) (v := 100) dX9_tell_81 (by decide) ?_
      refine AR.iadd (pc := 83) dX9_tell_83 ?_
      exact AR.iret (pc := 84) rfl dX9_tell_84 (hrI (Option.some.inj h))
    · replace h := ite_t c3 h
      refine AR.iload_n (pc := 71) (j := 0) dX9_tell_71 rfl rfl ?_
      refine AR.bipush (pc := 72) (v := 100) dX9_tell_72 (by decide) ?_
      refine AR.iadd (pc := 74) dX9_tell_74 ?_
      refine AR.goto (pc := 75) (tgt := 84) dX9_tell_75 (by decide) ?_
      exact AR.iret (pc := 84) rfl dX9_tell_84 (hrI (Option.some.inj h))
  · replace h := ite_t c2 h
    refine AR.iload_n (pc := 62) (j := 0) dX9_tell_62 rfl rfl ?_
    refine AR.goto (pc := 63) (tgt := 84) dX9_tell_63 (by decide) ?_
    exact AR.iret (pc := 84) rfl dX9_tell_84 (hrI (Option.some.inj h))
set_option maxHeartbeats 4000000 in
set_option maxRecDepth 100000 in
theorem A9_tell_36 {l : Launch} (x1 : Int32) (x2 : Int32) (σ : HS) (r : Int32 × HS) (h : f9_tell_36 x1 x2 σ = some r) : AR l RX9 cX9_tell 4 (some .int) (wsU yX9_tell cX9_tell 4 (some .int)) rm9_tell SM 36 [(0, .ref 0), (1, .int x1), (2, .int x2)] [] σ (some (.int r.1), r.2) := by
  unfold f9_tell_36 at h
  refine AR.aload_n (pc := 36) (j := 0) dX9_tell_36 rfl rfl ?_
  refine AR.iconst (pc := 37) (v := 1) dX9_tell_37 (by decide) ?_
  obtain ⟨r1, h1, h⟩ := bd_some h
  refine AR.callV (pc := 38) (As := [.int 1]) (st := []) (ci := 9) dX9_tell_38 ⟨cd_X9_traced, im_X9_traced, se_X9_traced, ini_X9⟩ ml_X9_299 (A9_traced 1 σ _ h1) ⟨rfl, pd_X9_traced⟩ ⟨Nat.le_of_ble_eq_true rfl, Nat.le_of_ble_eq_true rfl⟩ ⟨rfl, rfl⟩ rfl rfl rfl (Nat.le_of_ble_eq_true rfl) ?_
  refine AR.iload_n (pc := 41) (j := 2) dX9_tell_41 rfl rfl ?_
  refine AR.iconst (pc := 42) (v := 2) dX9_tell_42 (by decide) ?_
  refine AR.icmp_ne (pc := 43) (tgt := 51) dX9_tell_43 (by decide) (fun c2 => ?_) (fun c2 => ?_)
  · replace h := ite_f c2 h
    exact AR.pick [0, 1, 2] rfl (A9_tell_51 x1 x2 r1 r h)
  · replace h := ite_t c2 h
    refine AR.aload_n (pc := 46) (j := 0) dX9_tell_46 rfl rfl ?_
    refine AR.iconst (pc := 47) (v := 1) dX9_tell_47 (by decide) ?_
    obtain ⟨r3, h3, h⟩ := bd_some h
    refine AR.callV (pc := 48) (As := [.int 1]) (st := []) (ci := 9) dX9_tell_48 ⟨cd_X9_traced, im_X9_traced, se_X9_traced, ini_X9⟩ ml_X9_299 (A9_traced 1 r1 _ h3) ⟨rfl, pd_X9_traced⟩ ⟨Nat.le_of_ble_eq_true rfl, Nat.le_of_ble_eq_true rfl⟩ ⟨rfl, rfl⟩ rfl rfl rfl (Nat.le_of_ble_eq_true rfl) ?_
    exact AR.pick [0, 1, 2] rfl (A9_tell_51 x1 x2 r3 r h)
set_option maxHeartbeats 4000000 in
set_option maxRecDepth 100000 in
theorem A9_tell_27 {l : Launch} (x1 : Int32) (x2 : Int32) (σ : HS) (r : Int32 × HS) (h : f9_tell_27 x1 x2 σ = some r) : AR l RX9 cX9_tell 4 (some .int) (wsU yX9_tell cX9_tell 4 (some .int)) rm9_tell SM 27 [(0, .ref 0), (1, .int x1), (2, .int x2)] [] σ (some (.int r.1), r.2) := by
  unfold f9_tell_27 at h
  refine AR.iload_n (pc := 27) (j := 2) dX9_tell_27 rfl rfl ?_
  refine AR.if_le (pc := 28) (tgt := 36) dX9_tell_28 (by decide) (fun c1 => ?_) (fun c1 => ?_)
  · replace h := ite_t c1 h
    exact AR.pick [0, 1, 2] rfl (A9_tell_36 x1 x2 σ r h)
  · replace h := ite_f c1 h
    refine AR.aload_n (pc := 31) (j := 0) dX9_tell_31 rfl rfl ?_
    refine AR.iconst (pc := 32) (v := 2) dX9_tell_32 (by decide) ?_
    obtain ⟨r2, h2, h⟩ := bd_some h
    refine AR.callV (pc := 33) (As := [.int 2]) (st := []) (ci := 9) dX9_tell_33 ⟨cd_X9_traced, im_X9_traced, se_X9_traced, ini_X9⟩ ml_X9_299 (A9_traced 2 σ _ h2) ⟨rfl, pd_X9_traced⟩ ⟨Nat.le_of_ble_eq_true rfl, Nat.le_of_ble_eq_true rfl⟩ ⟨rfl, rfl⟩ rfl rfl rfl (Nat.le_of_ble_eq_true rfl) ?_
    exact AR.pick [0, 1, 2] rfl (A9_tell_36 x1 x2 r2 r h)
set_option maxHeartbeats 4000000 in
set_option maxRecDepth 100000 in
theorem A9_tell {l : Launch} (x1 : Int32) (σ : HS) (r : Int32 × HS) (h : f9_tell x1 σ = some r) : MA l yX9_tell (wsU yX9_tell cX9_tell 4 (some .int)) rm9_tell SM [.ref 0, .int x1] σ (some (.int r.1), r.2) := by
  refine MA.of (L := [(0, .ref 0), (1, .int x1)]) pn_X9_tell rfl (fun _ => Nat.le_of_ble_eq_true rfl) (fun _ => rfl) ?_
  unfold f9_tell at h
  refine AR.aload_n (pc := 0) (j := 0) dX9_tell_0 rfl rfl ?_
  refine AR.iload_n (pc := 1) (j := 1) dX9_tell_1 rfl rfl ?_
  obtain ⟨r1, h1, h⟩ := bd_some h
  refine AR.callV (pc := 2) (As := [.int x1]) (st := []) (ci := 9) dX9_tell_2 ⟨cd_X9_noSpeaker, im_X9_noSpeaker, se_X9_noSpeaker, ini_X9⟩ ml_X9_116 (A9_noSpeaker x1 σ _ h1) ⟨rfl, pd_X9_noSpeaker⟩ ⟨Nat.le_of_ble_eq_true rfl, Nat.le_of_ble_eq_true rfl⟩ ⟨rfl, rfl⟩ rfl rfl rfl (Nat.le_of_ble_eq_true rfl) ?_
  refine AR.if_eq (pc := 5) (tgt := 10) dX9_tell_5 (by decide) (fun c2 => ?_) (fun c2 => ?_)
  · replace h := ite_t c2 h
    refine AR.aload_n (pc := 10) (j := 0) dX9_tell_10 rfl rfl ?_
    refine AR.getf (pc := 11) (ci := 9) (j := 5) (d := 1 + 2) (v := .ref 1) (T := TX9) dX9_tell_11 rfl rfl rfl (by decide) (fun w hw => wsU_in (uw_X9 w hw)) (wsU_in fl_X9_7) rfl ?_
    refine AR.iload_n (pc := 14) (j := 1) dX9_tell_14 rfl rfl ?_
    obtain ⟨c3, h⟩ := gn_some h
    refine AR.iaload (pc := 15) dX9_tell_15 rfl c3 ?_
    refine AR.istore_n (pc := 16) (L2 := [(2, .int ((r1.2).1 1 (x1 : Int32).toNatClampNeg)), (0, .ref 0), (1, .int x1)]) dX9_tell_16 rfl (by decide) rfl ?_
    refine AR.iload_n (pc := 17) (j := 0) dX9_tell_17 rfl rfl ?_
    refine AR.iconst (pc := 18) (v := 2) dX9_tell_18 (by decide) ?_
    refine AR.icmp_ne (pc := 19) (tgt := 27) dX9_tell_19 (by decide) (fun c4 => ?_) (fun c4 => ?_)
    · replace h := ite_f c4 h
      exact AR.pick [1, 2, 0] rfl (A9_tell_27 x1 ((r1.2).1 1 (x1 : Int32).toNatClampNeg) (r1.2) r h)
    · replace h := ite_t c4 h
      refine AR.aload_n (pc := 22) (j := 1) dX9_tell_22 rfl rfl ?_
      refine AR.iconst (pc := 23) (v := 3) dX9_tell_23 (by decide) ?_
      obtain ⟨r5, h5, h⟩ := bd_some h
      refine AR.callV (pc := 24) (As := [.int 3]) (st := []) (ci := 9) dX9_tell_24 ⟨cd_X9_traced, im_X9_traced, se_X9_traced, ini_X9⟩ ml_X9_299 (A9_traced 3 (r1.2) _ h5) ⟨rfl, pd_X9_traced⟩ ⟨Nat.le_of_ble_eq_true rfl, Nat.le_of_ble_eq_true rfl⟩ ⟨rfl, rfl⟩ rfl rfl rfl (Nat.le_of_ble_eq_true rfl) ?_
      exact AR.pick [1, 2, 0] rfl (A9_tell_27 x1 ((r1.2).1 1 (x1 : Int32).toNatClampNeg) r5 r h)
  · replace h := ite_f c2 h
    refine AR.iconst (pc := 8) (v := (-1)) dX9_tell_8 (by decide) ?_
    exact AR.iret (pc := 9) rfl dX9_tell_9 (hrI (Option.some.inj h))
noncomputable def f9_call_26 (x1 : Int32) (z0 : Int32) (σ : HS) : Option (Int32 × HS) :=
  bd (f9_traced z0 σ) fun r1 =>
  if (x1 : Int32) < 0 ∨ 5 ≤ (x1 : Int32).toNatClampNeg then none else
  if ((r1.1 1 (x1 : Int32).toNatClampNeg) : Int32) = 2 then
    some (90, r1)
  else
    some (x1, r1)
noncomputable def f9_call (x1 : Int32) (σ : HS) : Option (Int32 × HS) :=
  bd (f9_noSpeaker x1 σ) fun r1 =>
  if (r1.1 : Int32) = 0 then
    if (x1 : Int32) < 0 ∨ 5 ≤ (x1 : Int32).toNatClampNeg then none else
    if (((r1.2).1 1 (x1 : Int32).toNatClampNeg) : Int32) = 2 then
      f9_call_26 x1 5 (r1.2)
    else
      f9_call_26 x1 4 (r1.2)
  else
    some ((-1), r1.2)
set_option maxHeartbeats 4000000 in
set_option maxRecDepth 100000 in
theorem A9_call_26 {l : Launch} (x1 : Int32) (z0 : Int32) (σ : HS) (r : Int32 × HS) (h : f9_call_26 x1 z0 σ = some r) : AR l RX9 cX9_call 2 (some .int) (wsU yX9_call cX9_call 2 (some .int)) rm9_call SM 26 [(0, .ref 0), (1, .int x1)] [.int z0, .ref 0] σ (some (.int r.1), r.2) := by
  unfold f9_call_26 at h
  obtain ⟨r1, h1, h⟩ := bd_some h
  refine AR.callV (pc := 26) (As := [.int z0]) (st := []) (ci := 9) dX9_call_26 ⟨cd_X9_traced, im_X9_traced, se_X9_traced, ini_X9⟩ ml_X9_299 (A9_traced z0 σ _ h1) ⟨rfl, pd_X9_traced⟩ ⟨Nat.le_of_ble_eq_true rfl, Nat.le_of_ble_eq_true rfl⟩ ⟨rfl, rfl⟩ rfl rfl rfl (Nat.le_of_ble_eq_true rfl) ?_
  refine AR.aload_n (pc := 29) (j := 0) dX9_call_29 rfl rfl ?_
  refine AR.getf (pc := 30) (ci := 9) (j := 5) (d := 1 + 2) (v := .ref 1) (T := TX9) dX9_call_30 rfl rfl rfl (by decide) (fun w hw => wsU_in (uw_X9 w hw)) (wsU_in fl_X9_7) rfl ?_
  refine AR.iload_n (pc := 33) (j := 1) dX9_call_33 rfl rfl ?_
  obtain ⟨c2, h⟩ := gn_some h
  refine AR.iaload (pc := 34) dX9_call_34 rfl c2 ?_
  refine AR.iconst (pc := 35) (v := 2) dX9_call_35 (by decide) ?_
  refine AR.icmp_ne (pc := 36) (tgt := 44) dX9_call_36 (by decide) (fun c3 => ?_) (fun c3 => ?_)
  · replace h := ite_f c3 h
    refine AR.iload_n (pc := 44) (j := 1) dX9_call_44 rfl rfl ?_
    exact AR.iret (pc := 45) rfl dX9_call_45 (hrI (Option.some.inj h))
  · replace h := ite_t c3 h
    refine AR.bipush (pc := 39) (v := 90) dX9_call_39 (by decide) ?_
    refine AR.goto (pc := 41) (tgt := 45) dX9_call_41 (by decide) ?_
    exact AR.iret (pc := 45) rfl dX9_call_45 (hrI (Option.some.inj h))
set_option maxHeartbeats 4000000 in
set_option maxRecDepth 100000 in
theorem A9_call {l : Launch} (x1 : Int32) (σ : HS) (r : Int32 × HS) (h : f9_call x1 σ = some r) : MA l yX9_call (wsU yX9_call cX9_call 2 (some .int)) rm9_call SM [.ref 0, .int x1] σ (some (.int r.1), r.2) := by
  refine MA.of (L := [(0, .ref 0), (1, .int x1)]) pn_X9_call rfl (fun _ => Nat.le_of_ble_eq_true rfl) (fun _ => rfl) ?_
  unfold f9_call at h
  refine AR.aload_n (pc := 0) (j := 0) dX9_call_0 rfl rfl ?_
  refine AR.iload_n (pc := 1) (j := 1) dX9_call_1 rfl rfl ?_
  obtain ⟨r1, h1, h⟩ := bd_some h
  refine AR.callV (pc := 2) (As := [.int x1]) (st := []) (ci := 9) dX9_call_2 ⟨cd_X9_noSpeaker, im_X9_noSpeaker, se_X9_noSpeaker, ini_X9⟩ ml_X9_116 (A9_noSpeaker x1 σ _ h1) ⟨rfl, pd_X9_noSpeaker⟩ ⟨Nat.le_of_ble_eq_true rfl, Nat.le_of_ble_eq_true rfl⟩ ⟨rfl, rfl⟩ rfl rfl rfl (Nat.le_of_ble_eq_true rfl) ?_
  refine AR.if_eq (pc := 5) (tgt := 10) dX9_call_5 (by decide) (fun c2 => ?_) (fun c2 => ?_)
  · replace h := ite_t c2 h
    refine AR.aload_n (pc := 10) (j := 0) dX9_call_10 rfl rfl ?_
    refine AR.aload_n (pc := 11) (j := 0) dX9_call_11 rfl rfl ?_
    refine AR.getf (pc := 12) (ci := 9) (j := 5) (d := 1 + 2) (v := .ref 1) (T := TX9) dX9_call_12 rfl rfl rfl (by decide) (fun w hw => wsU_in (uw_X9 w hw)) (wsU_in fl_X9_7) rfl ?_
    refine AR.iload_n (pc := 15) (j := 1) dX9_call_15 rfl rfl ?_
    obtain ⟨c3, h⟩ := gn_some h
    refine AR.iaload (pc := 16) dX9_call_16 rfl c3 ?_
    refine AR.iconst (pc := 17) (v := 2) dX9_call_17 (by decide) ?_
    refine AR.icmp_ne (pc := 18) (tgt := 25) dX9_call_18 (by decide) (fun c4 => ?_) (fun c4 => ?_)
    · replace h := ite_f c4 h
      refine AR.iconst (pc := 25) (v := 4) dX9_call_25 (by decide) ?_
      exact AR.pick [0, 1] rfl (A9_call_26 x1 4 (r1.2) r h)
    · replace h := ite_t c4 h
      refine AR.iconst (pc := 21) (v := 5) dX9_call_21 (by decide) ?_
      refine AR.goto (pc := 22) (tgt := 26) dX9_call_22 (by decide) ?_
      exact AR.pick [0, 1] rfl (A9_call_26 x1 5 (r1.2) r h)
  · replace h := ite_f c2 h
    refine AR.iconst (pc := 8) (v := (-1)) dX9_call_8 (by decide) ?_
    exact AR.iret (pc := 9) rfl dX9_call_9 (hrI (Option.some.inj h))
noncomputable def f9_as (x1 : Int32) (x2 : Int32) (σ : HS) : Option (Int32 × HS) :=
  bd (f9_noSpeaker x1 σ) fun r1 =>
  if (r1.1 : Int32) = 0 then
    bd (f9_in ((x2 : Int32).toInt64) 0 2 (r1.2)) fun r3 =>
    if (r3.1 : Int32) = 0 then
      bd (f9_refused (-2) (r3.2)) fun r9 =>
      some (r9.1, r9.2)
    else
      if (x1 : Int32) < 0 ∨ 5 ≤ (x1 : Int32).toNatClampNeg then none else
      if (((r3.2).1 1 (x1 : Int32).toNatClampNeg) : Int32) < x2 then
        bd (f9_failed 2 (r3.2)) fun r7 =>
        some (r7.1, r7.2)
      else
        bd (f9_refused 1 (r3.2)) fun r8 =>
        some (r8.1, r8.2)
  else
    bd (f9_refused (-1) (r1.2)) fun r10 =>
    some (r10.1, r10.2)
set_option maxHeartbeats 4000000 in
set_option maxRecDepth 100000 in
theorem A9_as {l : Launch} (x1 : Int32) (x2 : Int32) (σ : HS) (r : Int32 × HS) (h : f9_as x1 x2 σ = some r) : MA l yX9_as (wsU yX9_as cX9_as 3 (some .int)) rm9_as SM [.ref 0, .int x1, .int x2] σ (some (.int r.1), r.2) := by
  refine MA.of (L := [(0, .ref 0), (1, .int x1), (2, .int x2)]) pn_X9_as rfl (fun _ => Nat.le_of_ble_eq_true rfl) (fun _ => rfl) ?_
  unfold f9_as at h
  refine AR.aload_n (pc := 0) (j := 0) dX9_as_0 rfl rfl ?_
  refine AR.iload_n (pc := 1) (j := 1) dX9_as_1 rfl rfl ?_
  obtain ⟨r1, h1, h⟩ := bd_some h
  refine AR.callV (pc := 2) (As := [.int x1]) (st := []) (ci := 9) dX9_as_2 ⟨cd_X9_noSpeaker, im_X9_noSpeaker, se_X9_noSpeaker, ini_X9⟩ ml_X9_116 (A9_noSpeaker x1 σ _ h1) ⟨rfl, pd_X9_noSpeaker⟩ ⟨Nat.le_of_ble_eq_true rfl, Nat.le_of_ble_eq_true rfl⟩ ⟨rfl, rfl⟩ rfl rfl rfl (Nat.le_of_ble_eq_true rfl) ?_
  refine AR.if_eq (pc := 5) (tgt := 14) dX9_as_5 (by decide) (fun c2 => ?_) (fun c2 => ?_)
  · replace h := ite_t c2 h
    refine AR.iload_n (pc := 14) (j := 2) dX9_as_14 rfl rfl ?_
    refine AR.i2l (pc := 15) dX9_as_15 ?_
    refine AR.lconst (pc := 16) (v := 0) dX9_as_16 (by decide) ?_
    refine AR.ldc2 (pc := 17) (v := 2) dX9_as_17 (wsU_in kl_X9_100) ?_
    obtain ⟨r3, h3, h⟩ := bd_some h
    refine AR.callS (pc := 20) (As := [.long ((x2 : Int32).toInt64), .long 0, .long 2]) (st := []) dX9_as_20 ⟨cd_X9_in, sm_X9_in, ini_X9⟩ ml_X9_102 (A9_in ((x2 : Int32).toInt64) 0 2 (r1.2) _ h3) ⟨rfl, pd_X9_in⟩ ⟨Nat.le_of_ble_eq_true rfl, Nat.le_of_ble_eq_true rfl⟩ ⟨rfl, rfl⟩ rfl (Nat.le_of_ble_eq_true rfl) ?_
    refine AR.if_ne (pc := 23) (tgt := 33) dX9_as_23 (by decide) (fun c4 => ?_) (fun c4 => ?_)
    · replace h := ite_f c4 h
      refine AR.aload_n (pc := 33) (j := 0) dX9_as_33 rfl rfl ?_
      refine AR.getf (pc := 34) (ci := 9) (j := 5) (d := 1 + 2) (v := .ref 1) (T := TX9) dX9_as_34 rfl rfl rfl (by decide) (fun w hw => wsU_in (uw_X9 w hw)) (wsU_in fl_X9_7) rfl ?_
      refine AR.iload_n (pc := 37) (j := 1) dX9_as_37 rfl rfl ?_
      obtain ⟨c5, h⟩ := gn_some h
      refine AR.iaload (pc := 38) dX9_as_38 rfl c5 ?_
      refine AR.iload_n (pc := 39) (j := 2) dX9_as_39 rfl rfl ?_
      refine AR.icmp_lt (pc := 40) (tgt := 51) dX9_as_40 (by decide) (fun c6 => ?_) (fun c6 => ?_)
      · replace h := ite_t c6 h
        refine AR.aload_n (pc := 51) (j := 0) dX9_as_51 rfl rfl ?_
        refine AR.iconst (pc := 52) (v := 2) dX9_as_52 (by decide) ?_
        obtain ⟨r7, h7, h⟩ := bd_some h
        refine AR.callV (pc := 53) (As := [.int 2]) (st := []) (ci := 9) dX9_as_53 ⟨cd_X9_failed, im_X9_failed, se_X9_failed, ini_X9⟩ ml_X9_106 (A9_failed 2 (r3.2) _ h7) ⟨rfl, pd_X9_failed⟩ ⟨Nat.le_of_ble_eq_true rfl, Nat.le_of_ble_eq_true rfl⟩ ⟨rfl, rfl⟩ rfl rfl rfl (Nat.le_of_ble_eq_true rfl) ?_
        exact AR.iret (pc := 56) rfl dX9_as_56 (hrI (Option.some.inj h))
      · replace h := ite_f c6 h
        refine AR.aload_n (pc := 43) (j := 0) dX9_as_43 rfl rfl ?_
        refine AR.iconst (pc := 44) (v := 1) dX9_as_44 (by decide) ?_
        obtain ⟨r8, h8, h⟩ := bd_some h
        refine AR.callV (pc := 45) (As := [.int 1]) (st := []) (ci := 9) dX9_as_45 ⟨cd_X9_refused, im_X9_refused, se_X9_refused, ini_X9⟩ ml_X9_96 (A9_refused 1 (r3.2) _ h8) ⟨rfl, pd_X9_refused⟩ ⟨Nat.le_of_ble_eq_true rfl, Nat.le_of_ble_eq_true rfl⟩ ⟨rfl, rfl⟩ rfl rfl rfl (Nat.le_of_ble_eq_true rfl) ?_
        refine AR.goto (pc := 48) (tgt := 56) dX9_as_48 (by decide) ?_
        exact AR.iret (pc := 56) rfl dX9_as_56 (hrI (Option.some.inj h))
    · replace h := ite_t c4 h
      refine AR.aload_n (pc := 26) (j := 0) dX9_as_26 rfl rfl ?_
      refine AR.bipush (pc := 27) (v := (-2)) dX9_as_27 (by decide) ?_
      obtain ⟨r9, h9, h⟩ := bd_some h
      refine AR.callV (pc := 29) (As := [.int (-2)]) (st := []) (ci := 9) dX9_as_29 ⟨cd_X9_refused, im_X9_refused, se_X9_refused, ini_X9⟩ ml_X9_96 (A9_refused (-2) (r3.2) _ h9) ⟨rfl, pd_X9_refused⟩ ⟨Nat.le_of_ble_eq_true rfl, Nat.le_of_ble_eq_true rfl⟩ ⟨rfl, rfl⟩ rfl rfl rfl (Nat.le_of_ble_eq_true rfl) ?_
      exact AR.iret (pc := 32) rfl dX9_as_32 (hrI (Option.some.inj h))
  · replace h := ite_f c2 h
    refine AR.aload_n (pc := 8) (j := 0) dX9_as_8 rfl rfl ?_
    refine AR.iconst (pc := 9) (v := (-1)) dX9_as_9 (by decide) ?_
    obtain ⟨r10, h10, h⟩ := bd_some h
    refine AR.callV (pc := 10) (As := [.int (-1)]) (st := []) (ci := 9) dX9_as_10 ⟨cd_X9_refused, im_X9_refused, se_X9_refused, ini_X9⟩ ml_X9_96 (A9_refused (-1) (r1.2) _ h10) ⟨rfl, pd_X9_refused⟩ ⟨Nat.le_of_ble_eq_true rfl, Nat.le_of_ble_eq_true rfl⟩ ⟨rfl, rfl⟩ rfl rfl rfl (Nat.le_of_ble_eq_true rfl) ?_
    exact AR.iret (pc := 13) rfl dX9_as_13 (hrI (Option.some.inj h))
noncomputable def f9_trace (σ : HS) : Option (Int32 × HS) :=
  some ((σ.1 0 36), σ)
set_option maxHeartbeats 4000000 in
set_option maxRecDepth 100000 in
theorem A9_trace {l : Launch} (σ : HS) (r : Int32 × HS) (h : f9_trace σ = some r) : MA l yX9_trace (wsU yX9_trace cX9_trace 1 (some .int)) rm9_trace SM [.ref 0] σ (some (.int r.1), r.2) := by
  refine MA.of (L := [(0, .ref 0)]) pn_X9_trace rfl (fun _ => Nat.le_of_ble_eq_true rfl) (fun _ => rfl) ?_
  unfold f9_trace at h
  refine AR.aload_n (pc := 0) (j := 0) dX9_trace_0 rfl rfl ?_
  refine AR.getf (pc := 1) (ci := 9) (j := 36) (d := 0) (v := .int (σ.1 0 36)) (T := TX9) dX9_trace_1 rfl rfl rfl (by decide) (fun w hw => wsU_in (uw_X9 w hw)) (wsU_in fl_X9_296) rfl ?_
  exact AR.iret (pc := 4) rfl dX9_trace_4 (hrI (Option.some.inj h))
noncomputable def f9_fault (σ : HS) : Option (Int32 × HS) :=
  some ((σ.1 0 0), σ)
set_option maxHeartbeats 4000000 in
set_option maxRecDepth 100000 in
theorem A9_fault {l : Launch} (σ : HS) (r : Int32 × HS) (h : f9_fault σ = some r) : MA l yX9_fault (wsU yX9_fault cX9_fault 1 (some .int)) rm9_fault SM [.ref 0] σ (some (.int r.1), r.2) := by
  refine MA.of (L := [(0, .ref 0)]) pn_X9_fault rfl (fun _ => Nat.le_of_ble_eq_true rfl) (fun _ => rfl) ?_
  unfold f9_fault at h
  refine AR.aload_n (pc := 0) (j := 0) dX9_fault_0 rfl rfl ?_
  refine AR.getf (pc := 1) (ci := 9) (j := 0) (d := 0) (v := .int (σ.1 0 0)) (T := TX9) dX9_fault_1 rfl rfl rfl (by decide) (fun w hw => wsU_in (uw_X9 w hw)) (wsU_in fl_X9_84) rfl ?_
  exact AR.iret (pc := 4) rfl dX9_fault_4 (hrI (Option.some.inj h))
noncomputable def f9_many (x1 : Int32) (σ : HS) : Option (Int32 × HS) :=
  if (x1 : Int32) = 0 then
    some ((σ.1 0 1), σ)
  else
    if (x1 : Int32) = 1 then
      some ((σ.1 0 2), σ)
    else
      if (x1 : Int32) = 2 then
        some ((σ.1 0 3), σ)
      else
        if (x1 : Int32) = 3 then
          some ((σ.1 0 4), σ)
        else
          if (x1 : Int32) = 4 then
            bd (f9_turnsNow σ) fun r6 =>
            some (r6.1, r6.2)
          else
            if (x1 : Int32) = 5 then
              some ((σ.1 0 29), σ)
            else
              some ((-2), σ)
set_option maxHeartbeats 4000000 in
set_option maxRecDepth 100000 in
theorem A9_many {l : Launch} (x1 : Int32) (σ : HS) (r : Int32 × HS) (h : f9_many x1 σ = some r) : MA l yX9_many (wsU yX9_many cX9_many 2 (some .int)) rm9_many SM [.ref 0, .int x1] σ (some (.int r.1), r.2) := by
  refine MA.of (L := [(0, .ref 0), (1, .int x1)]) pn_X9_many rfl (fun _ => Nat.le_of_ble_eq_true rfl) (fun _ => rfl) ?_
  unfold f9_many at h
  refine AR.iload_n (pc := 0) (j := 1) dX9_many_0 rfl rfl ?_
  by_cases c1 : (x1 : Int32) = 0
  · replace h := ite_t c1 h
    refine AR.tableIn (pc := 1) (off := 39) (tgt := 40) dX9_many_1 (by rw [c1]; decide) (by rw [c1]; decide) (by rw [c1]; rfl) (by decide) ?_
    refine AR.aload_n (pc := 40) (j := 0) dX9_many_40 rfl rfl ?_
    refine AR.getf (pc := 41) (ci := 9) (j := 1) (d := 0) (v := .int (σ.1 0 1)) (T := TX9) dX9_many_41 rfl rfl rfl (by decide) (fun w hw => wsU_in (uw_X9 w hw)) (wsU_in fl_X9_113) rfl ?_
    exact AR.iret (pc := 44) rfl dX9_many_44 (hrI (Option.some.inj h))
  · replace h := ite_f c1 h
    by_cases c2 : (x1 : Int32) = 1
    · replace h := ite_t c2 h
      refine AR.tableIn (pc := 1) (off := 44) (tgt := 45) dX9_many_1 (by rw [c2]; decide) (by rw [c2]; decide) (by rw [c2]; rfl) (by decide) ?_
      refine AR.aload_n (pc := 45) (j := 0) dX9_many_45 rfl rfl ?_
      refine AR.getf (pc := 46) (ci := 9) (j := 2) (d := 0) (v := .int (σ.1 0 2)) (T := TX9) dX9_many_46 rfl rfl rfl (by decide) (fun w hw => wsU_in (uw_X9 w hw)) (wsU_in fl_X9_167) rfl ?_
      exact AR.iret (pc := 49) rfl dX9_many_49 (hrI (Option.some.inj h))
    · replace h := ite_f c2 h
      by_cases c3 : (x1 : Int32) = 2
      · replace h := ite_t c3 h
        refine AR.tableIn (pc := 1) (off := 49) (tgt := 50) dX9_many_1 (by rw [c3]; decide) (by rw [c3]; decide) (by rw [c3]; rfl) (by decide) ?_
        refine AR.aload_n (pc := 50) (j := 0) dX9_many_50 rfl rfl ?_
        refine AR.getf (pc := 51) (ci := 9) (j := 3) (d := 0) (v := .int (σ.1 0 3)) (T := TX9) dX9_many_51 rfl rfl rfl (by decide) (fun w hw => wsU_in (uw_X9 w hw)) (wsU_in fl_X9_170) rfl ?_
        exact AR.iret (pc := 54) rfl dX9_many_54 (hrI (Option.some.inj h))
      · replace h := ite_f c3 h
        by_cases c4 : (x1 : Int32) = 3
        · replace h := ite_t c4 h
          refine AR.tableIn (pc := 1) (off := 54) (tgt := 55) dX9_many_1 (by rw [c4]; decide) (by rw [c4]; decide) (by rw [c4]; rfl) (by decide) ?_
          refine AR.aload_n (pc := 55) (j := 0) dX9_many_55 rfl rfl ?_
          refine AR.getf (pc := 56) (ci := 9) (j := 4) (d := 0) (v := .int (σ.1 0 4)) (T := TX9) dX9_many_56 rfl rfl rfl (by decide) (fun w hw => wsU_in (uw_X9 w hw)) (wsU_in fl_X9_173) rfl ?_
          exact AR.iret (pc := 59) rfl dX9_many_59 (hrI (Option.some.inj h))
        · replace h := ite_f c4 h
          by_cases c5 : (x1 : Int32) = 4
          · replace h := ite_t c5 h
            refine AR.tableIn (pc := 1) (off := 59) (tgt := 60) dX9_many_1 (by rw [c5]; decide) (by rw [c5]; decide) (by rw [c5]; rfl) (by decide) ?_
            refine AR.aload_n (pc := 60) (j := 0) dX9_many_60 rfl rfl ?_
            obtain ⟨r6, h6, h⟩ := bd_some h
            refine AR.callV (pc := 61) (As := []) (st := []) (ci := 9) dX9_many_61 ⟨cd_X9_turnsNow, im_X9_turnsNow, se_X9_turnsNow, ini_X9⟩ ml_X9_215 (A9_turnsNow σ _ h6) ⟨rfl, pd_X9_turnsNow⟩ ⟨Nat.le_of_ble_eq_true rfl, Nat.le_of_ble_eq_true rfl⟩ ⟨rfl, rfl⟩ rfl rfl rfl (Nat.le_of_ble_eq_true rfl) ?_
            exact AR.iret (pc := 64) rfl dX9_many_64 (hrI (Option.some.inj h))
          · replace h := ite_f c5 h
            by_cases c7 : (x1 : Int32) = 5
            · replace h := ite_t c7 h
              refine AR.tableIn (pc := 1) (off := 64) (tgt := 65) dX9_many_1 (by rw [c7]; decide) (by rw [c7]; decide) (by rw [c7]; rfl) (by decide) ?_
              refine AR.aload_n (pc := 65) (j := 0) dX9_many_65 rfl rfl ?_
              refine AR.getf (pc := 66) (ci := 9) (j := 29) (d := 0) (v := .int (σ.1 0 29)) (T := TX9) dX9_many_66 rfl rfl rfl (by decide) (fun w hw => wsU_in (uw_X9 w hw)) (wsU_in fl_X9_176) rfl ?_
              exact AR.iret (pc := 69) rfl dX9_many_69 (hrI (Option.some.inj h))
            · replace h := ite_f c7 h
              refine AR.tableOut (pc := 1) (tgt := 70) dX9_many_1 (tsw6 c1 c2 c3 c4 c5 c7) (by decide) ?_
              refine AR.bipush (pc := 70) (v := (-2)) dX9_many_70 (by decide) ?_
              exact AR.iret (pc := 72) rfl dX9_many_72 (hrI (Option.some.inj h))
