noncomputable def f8_motion (x1 : Int32) (x2 : Int32) (x3 : Int32) (σ : HS) : Option (Int32 × HS) :=
  bd (f4_hasWord x1 x2 σ) fun r1 =>
  if (r1.1 : Int32) = 0 then
    some ((-1), r1.2)
  else
    if (x3 : Int32) < (-1) then
      some ((-1), r1.2)
    else
      if (x3 : Int32) < ((r1.2).1 5 0) then
        bd (f3_seek (r1.2)) fun r5 =>
        bd (f3_isFound x1 x2 r5) fun r6 =>
        if (r6.1 : Int32) = 0 then
          some ((-9), r6.2)
        else
          if (x3 : Int32) = (-1) then
            bd (f3_changesFor x1 x2 (r6.2)) fun r10 =>
            some (r10.1, r10.2)
          else
            bd (f3_whoFor x1 x2 x3 (r6.2)) fun r9 =>
            some (r9.1, r9.2)
      else
        some ((-1), r1.2)
set_option maxHeartbeats 4000000 in
set_option maxRecDepth 100000 in
theorem A8_motion {l : Launch} (x1 : Int32) (x2 : Int32) (x3 : Int32) (σ : HS) (r : Int32 × HS) (h : f8_motion x1 x2 x3 σ = some r) : MA l yX8_motion (wsU yX8_motion cX8_motion 4 (some .int)) rm8_motion SC [.ref 0, .int x1, .int x2, .int x3] σ (some (.int r.1), r.2) := by
  refine MA.of (L := [(0, .ref 0), (1, .int x1), (2, .int x2), (3, .int x3)]) pn_X8_motion rfl (fun _ => Nat.le_of_ble_eq_true rfl) (fun _ => rfl) ?_
  unfold f8_motion at h
  refine AR.aload_n (pc := 0) (j := 0) dX8_motion_0 rfl rfl ?_
  refine AR.getf (pc := 1) (ci := 8) (j := 1) (d := 5 + 2) (v := .ref 5) (T := TX8) dX8_motion_1 rfl rfl rfl (by decide) (fun w hw => wsU_in (uw_X8 w hw)) (wsU_in fl_X8_32) rfl ?_
  refine AR.iload_n (pc := 4) (j := 1) dX8_motion_4 rfl rfl ?_
  refine AR.iload_n (pc := 5) (j := 2) dX8_motion_5 rfl rfl ?_
  obtain ⟨r1, h1, h⟩ := bd_some h
  refine AR.callVN (pc := 6) (As := [.int x1, .int x2]) (st := []) (ci := 4) dX8_motion_6 ⟨cd_X4_hasWord, im_X4_hasWord, se_X4_hasWord, ini_X4⟩ mn_X8_147 (A4_hasWord x1 x2 σ _ h1) ⟨rfl, pd_X4_hasWord⟩ ⟨Nat.le_of_ble_eq_true rfl, Nat.le_of_ble_eq_true rfl⟩ ⟨rfl, rfl⟩ rfl rfl rfl (Nat.le_of_ble_eq_true rfl) ?_
  refine AR.if_eq (pc := 9) (tgt := 28) dX8_motion_9 (by decide) (fun c2 => ?_) (fun c2 => ?_)
  · replace h := ite_t c2 h
    refine AR.iconst (pc := 28) (v := (-1)) dX8_motion_28 (by decide) ?_
    exact AR.iret (pc := 29) rfl dX8_motion_29 (hrI (Option.some.inj h))
  · replace h := ite_f c2 h
    refine AR.iload_n (pc := 12) (j := 3) dX8_motion_12 rfl rfl ?_
    refine AR.iconst (pc := 13) (v := (-1)) dX8_motion_13 (by decide) ?_
    refine AR.icmp_lt (pc := 14) (tgt := 28) dX8_motion_14 (by decide) (fun c3 => ?_) (fun c3 => ?_)
    · replace h := ite_t c3 h
      refine AR.iconst (pc := 28) (v := (-1)) dX8_motion_28 (by decide) ?_
      exact AR.iret (pc := 29) rfl dX8_motion_29 (hrI (Option.some.inj h))
    · replace h := ite_f c3 h
      refine AR.iload_n (pc := 17) (j := 3) dX8_motion_17 rfl rfl ?_
      refine AR.aload_n (pc := 18) (j := 0) dX8_motion_18 rfl rfl ?_
      refine AR.getf (pc := 19) (ci := 8) (j := 1) (d := 5 + 2) (v := .ref 5) (T := TX8) dX8_motion_19 rfl rfl rfl (by decide) (fun w hw => wsU_in (uw_X8 w hw)) (wsU_in fl_X8_32) rfl ?_
      refine AR.getfN (pc := 22) (ci := 4) (j := 0) (d := 0) (v := .int ((r1.2).1 5 0)) (T := TX4) dX8_motion_22 rfl rfl rfl (by decide) (fun w hw => wsU_in (uw_X4 w hw)) fn_X8_132 rfl ?_
      refine AR.icmp_lt (pc := 25) (tgt := 30) dX8_motion_25 (by decide) (fun c4 => ?_) (fun c4 => ?_)
      · replace h := ite_t c4 h
        refine AR.aload_n (pc := 30) (j := 0) dX8_motion_30 rfl rfl ?_
        refine AR.getf (pc := 31) (ci := 8) (j := 10) (d := 44 + 2) (v := .ref 44) (T := TX8) dX8_motion_31 rfl rfl rfl (by decide) (fun w hw => wsU_in (uw_X8 w hw)) (wsU_in fl_X8_97) rfl ?_
        obtain ⟨r5, h5, h⟩ := bd_some h
        refine AR.callVN (pc := 34) (As := []) (st := []) (ci := 3) dX8_motion_34 ⟨cd_X3_seek, im_X3_seek, se_X3_seek, ini_X3⟩ mn_X8_255 (A3_seek (r1.2) _ h5) ⟨rfl, pd_X3_seek⟩ ⟨Nat.le_of_ble_eq_true rfl, Nat.le_of_ble_eq_true rfl⟩ ⟨rfl, rfl⟩ rfl rfl rfl (Nat.le_of_ble_eq_true rfl) ?_
        refine AR.aload_n (pc := 37) (j := 0) dX8_motion_37 rfl rfl ?_
        refine AR.getf (pc := 38) (ci := 8) (j := 10) (d := 44 + 2) (v := .ref 44) (T := TX8) dX8_motion_38 rfl rfl rfl (by decide) (fun w hw => wsU_in (uw_X8 w hw)) (wsU_in fl_X8_97) rfl ?_
        refine AR.iload_n (pc := 41) (j := 1) dX8_motion_41 rfl rfl ?_
        refine AR.iload_n (pc := 42) (j := 2) dX8_motion_42 rfl rfl ?_
        obtain ⟨r6, h6, h⟩ := bd_some h
        refine AR.callVN (pc := 43) (As := [.int x1, .int x2]) (st := []) (ci := 3) dX8_motion_43 ⟨cd_X3_isFound, im_X3_isFound, se_X3_isFound, ini_X3⟩ mn_X8_258 (A3_isFound x1 x2 r5 _ h6) ⟨rfl, pd_X3_isFound⟩ ⟨Nat.le_of_ble_eq_true rfl, Nat.le_of_ble_eq_true rfl⟩ ⟨rfl, rfl⟩ rfl rfl rfl (Nat.le_of_ble_eq_true rfl) ?_
        refine AR.if_ne (pc := 46) (tgt := 52) dX8_motion_46 (by decide) (fun c7 => ?_) (fun c7 => ?_)
        · replace h := ite_f c7 h
          refine AR.iload_n (pc := 52) (j := 3) dX8_motion_52 rfl rfl ?_
          refine AR.iconst (pc := 53) (v := (-1)) dX8_motion_53 (by decide) ?_
          refine AR.icmp_ne (pc := 54) (tgt := 69) dX8_motion_54 (by decide) (fun c8 => ?_) (fun c8 => ?_)
          · replace h := ite_f c8 h
            refine AR.aload_n (pc := 69) (j := 0) dX8_motion_69 rfl rfl ?_
            refine AR.getf (pc := 70) (ci := 8) (j := 10) (d := 44 + 2) (v := .ref 44) (T := TX8) dX8_motion_70 rfl rfl rfl (by decide) (fun w hw => wsU_in (uw_X8 w hw)) (wsU_in fl_X8_97) rfl ?_
            refine AR.iload_n (pc := 73) (j := 1) dX8_motion_73 rfl rfl ?_
            refine AR.iload_n (pc := 74) (j := 2) dX8_motion_74 rfl rfl ?_
            refine AR.iload_n (pc := 75) (j := 3) dX8_motion_75 rfl rfl ?_
            obtain ⟨r9, h9, h⟩ := bd_some h
            refine AR.callVN (pc := 76) (As := [.int x1, .int x2, .int x3]) (st := []) (ci := 3) dX8_motion_76 ⟨cd_X3_whoFor, im_X3_whoFor, se_X3_whoFor, ini_X3⟩ mn_X8_264 (A3_whoFor x1 x2 x3 (r6.2) _ h9) ⟨rfl, pd_X3_whoFor⟩ ⟨Nat.le_of_ble_eq_true rfl, Nat.le_of_ble_eq_true rfl⟩ ⟨rfl, rfl⟩ rfl rfl rfl (Nat.le_of_ble_eq_true rfl) ?_
            exact AR.iret (pc := 79) rfl dX8_motion_79 (hrI (Option.some.inj h))
          · replace h := ite_t c8 h
            refine AR.aload_n (pc := 57) (j := 0) dX8_motion_57 rfl rfl ?_
            refine AR.getf (pc := 58) (ci := 8) (j := 10) (d := 44 + 2) (v := .ref 44) (T := TX8) dX8_motion_58 rfl rfl rfl (by decide) (fun w hw => wsU_in (uw_X8 w hw)) (wsU_in fl_X8_97) rfl ?_
            refine AR.iload_n (pc := 61) (j := 1) dX8_motion_61 rfl rfl ?_
            refine AR.iload_n (pc := 62) (j := 2) dX8_motion_62 rfl rfl ?_
            obtain ⟨r10, h10, h⟩ := bd_some h
            refine AR.callVN (pc := 63) (As := [.int x1, .int x2]) (st := []) (ci := 3) dX8_motion_63 ⟨cd_X3_changesFor, im_X3_changesFor, se_X3_changesFor, ini_X3⟩ mn_X8_261 (A3_changesFor x1 x2 (r6.2) _ h10) ⟨rfl, pd_X3_changesFor⟩ ⟨Nat.le_of_ble_eq_true rfl, Nat.le_of_ble_eq_true rfl⟩ ⟨rfl, rfl⟩ rfl rfl rfl (Nat.le_of_ble_eq_true rfl) ?_
            refine AR.goto (pc := 66) (tgt := 79) dX8_motion_66 (by decide) ?_
            exact AR.iret (pc := 79) rfl dX8_motion_79 (hrI (Option.some.inj h))
        · replace h := ite_t c7 h
          refine AR.bipush (pc := 49) (v := (-9)) dX8_motion_49 (by decide) ?_
          exact AR.iret (pc := 51) rfl dX8_motion_51 (hrI (Option.some.inj h))
      · replace h := ite_f c4 h
        refine AR.iconst (pc := 28) (v := (-1)) dX8_motion_28 (by decide) ?_
        exact AR.iret (pc := 29) rfl dX8_motion_29 (hrI (Option.some.inj h))
noncomputable def f8_canSilence_95 (k43 : Int32 × Int32 × HS → Option (Int32 × HS)) (x1 : Int32) (x2 : Int32) (x3 : Int32) (x4 : Int32) (x6 : Int32) (z0 : Int32) (σ : HS) : Option (Int32 × HS) :=
  k43 (z0, (x6 + 1), σ)
noncomputable def f8_canSilence_43_b (k43 : Int32 × Int32 × HS → Option (Int32 × HS)) (x1 : Int32) (x2 : Int32) (x3 : Int32) (x4 : Int32) (x5 : Int32) (x6 : Int32) (σ : HS) : Option (Int32 × HS) :=
  bd (f4_wordsOf 5 x1 σ) fun r1 =>
  if (r1.1 : Int32) ≤ x6 then
    if (x5 : Int32) = 0 ∨ (x5 : Int32) = 1 then some (x5, r1.2) else none
  else
    if (3 : Int32) ≤ x6 then
      if (x5 : Int32) = 0 ∨ (x5 : Int32) = 1 then some (x5, r1.2) else none
    else
      if (x5 : Int32) = 0 then
        bd (f1_goForced 20 x4 x6 (r1.2)) fun r8 =>
        bd (f1_hasSaid x2 x3 r8) fun r9 =>
        if (r9.1 : Int32) = 0 then
          f8_canSilence_95 k43 x1 x2 x3 x4 x6 1 (r9.2)
        else
          f8_canSilence_95 k43 x1 x2 x3 x4 x6 0 (r9.2)
      else
        if (x5 : Int32) = 0 ∨ (x5 : Int32) = 1 then some (x5, r1.2) else none
noncomputable def f8_canSilence_43 (x1 : Int32) (x2 : Int32) (x3 : Int32) (x4 : Int32) (p : Int32 × Int32 × HS) : Option (Int32 × HS) :=
  wloop (fun k43 p => f8_canSilence_43_b k43 x1 x2 x3 x4 p.1 p.2.1 p.2.2) fuelN p
noncomputable def f8_canSilence_38 (x1 : Int32) (x2 : Int32) (x3 : Int32) (x4 : Int32) (z0 : Int32) (σ : HS) : Option (Int32 × HS) :=
  f8_canSilence_43 x1 x2 x3 x4 (z0, 0, σ)
noncomputable def f8_canSilence (x1 : Int32) (x2 : Int32) (x3 : Int32) (σ : HS) : Option (Int32 × HS) :=
  bd (f0_placeOf x1 σ) fun r1 =>
  bd (f1_goForced 20 (r1.1) (-9) (r1.2)) fun r2 =>
  bd (f1_hasSaid x2 x3 r2) fun r3 =>
  if (r3.1 : Int32) = 0 then
    f8_canSilence_38 x1 x2 x3 (r1.1) 1 (r3.2)
  else
    f8_canSilence_38 x1 x2 x3 (r1.1) 0 (r3.2)
set_option maxHeartbeats 4000000 in
set_option maxRecDepth 100000 in
theorem A8_canSilence_95 {l : Launch} (k43 : Int32 × Int32 × HS → Option (Int32 × HS)) (x1 : Int32) (x2 : Int32) (x3 : Int32) (x4 : Int32) (x6 : Int32) (z0 : Int32) (hk43 : ∀ (p : Int32 × Int32 × HS) (r : Int32 × HS), k43 p = some r → AR l RX8 cX8_canSilence 7 (some .boolean) (wsU yX8_canSilence cX8_canSilence 7 (some .boolean)) rm8_canSilence SC 43 [(0, .ref 0), (1, .int x1), (2, .int x2), (3, .int x3), (4, .int x4), (5, .int (p.1)), (6, .int (p.2.1))] [] p.2.2 (some (.int r.1), r.2)) (σ : HS) (r : Int32 × HS) (h : f8_canSilence_95 k43 x1 x2 x3 x4 x6 z0 σ = some r) : AR l RX8 cX8_canSilence 7 (some .boolean) (wsU yX8_canSilence cX8_canSilence 7 (some .boolean)) rm8_canSilence SC 95 [(0, .ref 0), (1, .int x1), (2, .int x2), (3, .int x3), (4, .int x4), (6, .int x6)] [.int z0] σ (some (.int r.1), r.2) := by
  unfold f8_canSilence_95 at h
  refine AR.istore (pc := 95) (L2 := [(5, .int z0), (0, .ref 0), (1, .int x1), (2, .int x2), (3, .int x3), (4, .int x4), (6, .int x6)]) dX8_canSilence_95 (by decide) rfl ?_
  refine AR.iinc (pc := 97) (j := 6) (v := (x6 + 1)) (L2 := [(6, .int (x6 + 1)), (5, .int z0), (0, .ref 0), (1, .int x1), (2, .int x2), (3, .int x3), (4, .int x4)]) dX8_canSilence_97 rfl rfl (by decide) rfl ?_
  refine AR.goto (pc := 100) (tgt := 43) dX8_canSilence_100 (by decide) ?_
  exact AR.pick [2, 3, 4, 5, 6, 1, 0] rfl (hk43 (z0, (x6 + 1), σ) r h)
set_option maxHeartbeats 4000000 in
set_option maxRecDepth 100000 in
theorem A8_canSilence_43_b {l : Launch} (k43 : Int32 × Int32 × HS → Option (Int32 × HS)) (x1 : Int32) (x2 : Int32) (x3 : Int32) (x4 : Int32) (x5 : Int32) (x6 : Int32) (hk43 : ∀ (p : Int32 × Int32 × HS) (r : Int32 × HS), k43 p = some r → AR l RX8 cX8_canSilence 7 (some .boolean) (wsU yX8_canSilence cX8_canSilence 7 (some .boolean)) rm8_canSilence SC 43 [(0, .ref 0), (1, .int x1), (2, .int x2), (3, .int x3), (4, .int x4), (5, .int (p.1)), (6, .int (p.2.1))] [] p.2.2 (some (.int r.1), r.2)) (σ : HS) (r : Int32 × HS) (h : f8_canSilence_43_b k43 x1 x2 x3 x4 x5 x6 σ = some r) : AR l RX8 cX8_canSilence 7 (some .boolean) (wsU yX8_canSilence cX8_canSilence 7 (some .boolean)) rm8_canSilence SC 43 [(0, .ref 0), (1, .int x1), (2, .int x2), (3, .int x3), (4, .int x4), (5, .int x5), (6, .int x6)] [] σ (some (.int r.1), r.2) := by
  unfold f8_canSilence_43_b at h
  refine AR.iload (pc := 43) (j := 6) dX8_canSilence_43 rfl ?_
  refine AR.aload_n (pc := 45) (j := 0) dX8_canSilence_45 rfl rfl ?_
  refine AR.getf (pc := 46) (ci := 8) (j := 1) (d := 5 + 2) (v := .ref 5) (T := TX8) dX8_canSilence_46 rfl rfl rfl (by decide) (fun w hw => wsU_in (uw_X8 w hw)) (wsU_in fl_X8_32) rfl ?_
  refine AR.iload_n (pc := 49) (j := 1) dX8_canSilence_49 rfl rfl ?_
  obtain ⟨r1, h1, h⟩ := bd_some h
  refine AR.callVN (pc := 50) (As := [.int x1]) (st := [.int x6]) (ci := 4) dX8_canSilence_50 ⟨cd_X4_wordsOf, im_X4_wordsOf, se_X4_wordsOf, ini_X4⟩ mn_X8_142 (A4_wordsOf 5 ppl5 x1 σ _ h1) ⟨rfl, pd_X4_wordsOf⟩ ⟨Nat.le_of_ble_eq_true rfl, Nat.le_of_ble_eq_true rfl⟩ ⟨rfl, rfl⟩ rfl rfl rfl (Nat.le_of_ble_eq_true rfl) ?_
  refine AR.icmp_ge (pc := 53) (tgt := 103) dX8_canSilence_53 (by decide) (fun c2 => ?_) (fun c2 => ?_)
  · replace h := ite_t c2 h
    refine AR.iload (pc := 103) (j := 5) dX8_canSilence_103 rfl ?_
    obtain ⟨c3, h⟩ := gp_some h
    exact AR.zret (pc := 105) rfl c3 dX8_canSilence_105 (hrI (Option.some.inj h))
  · replace h := ite_f c2 h
    refine AR.iload (pc := 56) (j := 6) dX8_canSilence_56 rfl ?_
    refine AR.iconst (pc := 58) (v := 3) dX8_canSilence_58 (by decide) ?_
    refine AR.icmp_ge (pc := 59) (tgt := 103) dX8_canSilence_59 (by decide) (fun c4 => ?_) (fun c4 => ?_)
    · replace h := ite_t c4 h
      refine AR.iload (pc := 103) (j := 5) dX8_canSilence_103 rfl ?_
      obtain ⟨c5, h⟩ := gp_some h
      exact AR.zret (pc := 105) rfl c5 dX8_canSilence_105 (hrI (Option.some.inj h))
    · replace h := ite_f c4 h
      refine AR.iload (pc := 62) (j := 5) dX8_canSilence_62 rfl ?_
      refine AR.if_ne (pc := 64) (tgt := 103) dX8_canSilence_64 (by decide) (fun c6 => ?_) (fun c6 => ?_)
      · replace h := ite_f c6 h
        refine AR.iload (pc := 103) (j := 5) dX8_canSilence_103 rfl ?_
        obtain ⟨c7, h⟩ := gp_some h
        exact AR.zret (pc := 105) rfl c7 dX8_canSilence_105 (hrI (Option.some.inj h))
      · replace h := ite_t c6 h
        refine AR.aload_n (pc := 67) (j := 0) dX8_canSilence_67 rfl rfl ?_
        refine AR.getf (pc := 68) (ci := 8) (j := 5) (d := 27 + 2) (v := .ref 27) (T := TX8) dX8_canSilence_68 rfl rfl rfl (by decide) (fun w hw => wsU_in (uw_X8 w hw)) (wsU_in fl_X8_72) rfl ?_
        refine AR.iload (pc := 71) (j := 4) dX8_canSilence_71 rfl ?_
        refine AR.iload (pc := 73) (j := 6) dX8_canSilence_73 rfl ?_
        obtain ⟨r8, h8, h⟩ := bd_some h
        refine AR.callVN (pc := 75) (As := [.int x4, .int x6]) (st := []) (ci := 1) dX8_canSilence_75 ⟨cd_X1_goForced, im_X1_goForced, se_X1_goForced, ini_X1⟩ mn_X8_249 (A1_goForced 20 grp20 x4 x6 (r1.2) _ h8) ⟨rfl, pd_X1_goForced⟩ ⟨Nat.le_of_ble_eq_true rfl, Nat.le_of_ble_eq_true rfl⟩ ⟨rfl, rfl⟩ rfl rfl rfl (Nat.le_of_ble_eq_true rfl) ?_
        refine AR.aload_n (pc := 78) (j := 0) dX8_canSilence_78 rfl rfl ?_
        refine AR.getf (pc := 79) (ci := 8) (j := 5) (d := 27 + 2) (v := .ref 27) (T := TX8) dX8_canSilence_79 rfl rfl rfl (by decide) (fun w hw => wsU_in (uw_X8 w hw)) (wsU_in fl_X8_72) rfl ?_
        refine AR.iload_n (pc := 82) (j := 2) dX8_canSilence_82 rfl rfl ?_
        refine AR.iload_n (pc := 83) (j := 3) dX8_canSilence_83 rfl rfl ?_
        obtain ⟨r9, h9, h⟩ := bd_some h
        refine AR.callVN (pc := 84) (As := [.int x2, .int x3]) (st := []) (ci := 1) dX8_canSilence_84 ⟨cd_X1_hasSaid, im_X1_hasSaid, se_X1_hasSaid, ini_X1⟩ mn_X8_271 (A1_hasSaid x2 x3 r8 _ h9) ⟨rfl, pd_X1_hasSaid⟩ ⟨Nat.le_of_ble_eq_true rfl, Nat.le_of_ble_eq_true rfl⟩ ⟨rfl, rfl⟩ rfl rfl rfl (Nat.le_of_ble_eq_true rfl) ?_
        refine AR.if_ne (pc := 87) (tgt := 94) dX8_canSilence_87 (by decide) (fun c10 => ?_) (fun c10 => ?_)
        · replace h := ite_f c10 h
          refine AR.iconst (pc := 94) (v := 0) dX8_canSilence_94 (by decide) ?_
          exact AR.pick [0, 1, 2, 3, 4, 6] rfl (A8_canSilence_95 k43 x1 x2 x3 x4 x6 0 hk43 (r9.2) r h)
        · replace h := ite_t c10 h
          refine AR.iconst (pc := 90) (v := 1) dX8_canSilence_90 (by decide) ?_
          refine AR.goto (pc := 91) (tgt := 95) dX8_canSilence_91 (by decide) ?_
          exact AR.pick [0, 1, 2, 3, 4, 6] rfl (A8_canSilence_95 k43 x1 x2 x3 x4 x6 1 hk43 (r9.2) r h)
theorem A8_canSilence_43 {l : Launch} (x1 : Int32) (x2 : Int32) (x3 : Int32) (x4 : Int32) (p : Int32 × Int32 × HS) (r : Int32 × HS) (h : f8_canSilence_43 x1 x2 x3 x4 p = some r) : AR l RX8 cX8_canSilence 7 (some .boolean) (wsU yX8_canSilence cX8_canSilence 7 (some .boolean)) rm8_canSilence SC 43 [(0, .ref 0), (1, .int x1), (2, .int x2), (3, .int x3), (4, .int x4), (5, .int (p.1)), (6, .int (p.2.1))] [] p.2.2 (some (.int r.1), r.2) := by
  unfold f8_canSilence_43 at h
  exact wloop_run (body := fun k43 p => f8_canSilence_43_b k43 x1 x2 x3 x4 p.1 p.2.1 p.2.2) (Q := fun p r => AR l RX8 cX8_canSilence 7 (some .boolean) (wsU yX8_canSilence cX8_canSilence 7 (some .boolean)) rm8_canSilence SC 43 [(0, .ref 0), (1, .int x1), (2, .int x2), (3, .int x3), (4, .int x4), (5, .int (p.1)), (6, .int (p.2.1))] [] p.2.2 (some (.int r.1), r.2)) (fun k43 hk43 p r h => A8_canSilence_43_b k43 x1 x2 x3 x4 p.1 p.2.1 hk43 p.2.2 r h) fuelN p r h
set_option maxHeartbeats 4000000 in
set_option maxRecDepth 100000 in
theorem A8_canSilence_38 {l : Launch} (x1 : Int32) (x2 : Int32) (x3 : Int32) (x4 : Int32) (z0 : Int32) (σ : HS) (r : Int32 × HS) (h : f8_canSilence_38 x1 x2 x3 x4 z0 σ = some r) : AR l RX8 cX8_canSilence 7 (some .boolean) (wsU yX8_canSilence cX8_canSilence 7 (some .boolean)) rm8_canSilence SC 38 [(0, .ref 0), (1, .int x1), (2, .int x2), (3, .int x3), (4, .int x4)] [.int z0] σ (some (.int r.1), r.2) := by
  unfold f8_canSilence_38 at h
  refine AR.istore (pc := 38) (L2 := [(5, .int z0), (0, .ref 0), (1, .int x1), (2, .int x2), (3, .int x3), (4, .int x4)]) dX8_canSilence_38 (by decide) rfl ?_
  refine AR.iconst (pc := 40) (v := 0) dX8_canSilence_40 (by decide) ?_
  refine AR.istore (pc := 41) (L2 := [(6, .int 0), (5, .int z0), (0, .ref 0), (1, .int x1), (2, .int x2), (3, .int x3), (4, .int x4)]) dX8_canSilence_41 (by decide) rfl ?_
  exact AR.pick [2, 3, 4, 5, 6, 1, 0] rfl (A8_canSilence_43 x1 x2 x3 x4 (z0, 0, σ) r h)
set_option maxHeartbeats 4000000 in
set_option maxRecDepth 100000 in
theorem A8_canSilence {l : Launch} (x1 : Int32) (x2 : Int32) (x3 : Int32) (σ : HS) (r : Int32 × HS) (h : f8_canSilence x1 x2 x3 σ = some r) : MA l yX8_canSilence (wsU yX8_canSilence cX8_canSilence 7 (some .boolean)) rm8_canSilence SC [.ref 0, .int x1, .int x2, .int x3] σ (some (.int r.1), r.2) := by
  refine MA.of (L := [(0, .ref 0), (1, .int x1), (2, .int x2), (3, .int x3)]) pn_X8_canSilence rfl (fun _ => Nat.le_of_ble_eq_true rfl) (fun _ => rfl) ?_
  unfold f8_canSilence at h
  refine AR.aload_n (pc := 0) (j := 0) dX8_canSilence_0 rfl rfl ?_
  refine AR.getf (pc := 1) (ci := 8) (j := 3) (d := 20 + 2) (v := .ref 20) (T := TX8) dX8_canSilence_1 rfl rfl rfl (by decide) (fun w hw => wsU_in (uw_X8 w hw)) (wsU_in fl_X8_54) rfl ?_
  refine AR.iload_n (pc := 4) (j := 1) dX8_canSilence_4 rfl rfl ?_
  obtain ⟨r1, h1, h⟩ := bd_some h
  refine AR.callVN (pc := 5) (As := [.int x1]) (st := []) (ci := 0) dX8_canSilence_5 ⟨cd_X0_placeOf, im_X0_placeOf, se_X0_placeOf, ini_X0⟩ mn_X8_145 (A0_placeOf x1 σ _ h1) ⟨rfl, pd_X0_placeOf⟩ ⟨Nat.le_of_ble_eq_true rfl, Nat.le_of_ble_eq_true rfl⟩ ⟨rfl, rfl⟩ rfl rfl rfl (Nat.le_of_ble_eq_true rfl) ?_
  refine AR.istore (pc := 8) (L2 := [(4, .int (r1.1)), (0, .ref 0), (1, .int x1), (2, .int x2), (3, .int x3)]) dX8_canSilence_8 (by decide) rfl ?_
  refine AR.aload_n (pc := 10) (j := 1) dX8_canSilence_10 rfl rfl ?_
  refine AR.getf (pc := 11) (ci := 8) (j := 5) (d := 27 + 2) (v := .ref 27) (T := TX8) dX8_canSilence_11 rfl rfl rfl (by decide) (fun w hw => wsU_in (uw_X8 w hw)) (wsU_in fl_X8_72) rfl ?_
  refine AR.iload (pc := 14) (j := 0) dX8_canSilence_14 rfl ?_
  refine AR.bipush (pc := 16) (v := (-9)) dX8_canSilence_16 (by decide) ?_
  obtain ⟨r2, h2, h⟩ := bd_some h
  refine AR.callVN (pc := 18) (As := [.int (r1.1), .int (-9)]) (st := []) (ci := 1) dX8_canSilence_18 ⟨cd_X1_goForced, im_X1_goForced, se_X1_goForced, ini_X1⟩ mn_X8_249 (A1_goForced 20 grp20 (r1.1) (-9) (r1.2) _ h2) ⟨rfl, pd_X1_goForced⟩ ⟨Nat.le_of_ble_eq_true rfl, Nat.le_of_ble_eq_true rfl⟩ ⟨rfl, rfl⟩ rfl rfl rfl (Nat.le_of_ble_eq_true rfl) ?_
  refine AR.aload_n (pc := 21) (j := 1) dX8_canSilence_21 rfl rfl ?_
  refine AR.getf (pc := 22) (ci := 8) (j := 5) (d := 27 + 2) (v := .ref 27) (T := TX8) dX8_canSilence_22 rfl rfl rfl (by decide) (fun w hw => wsU_in (uw_X8 w hw)) (wsU_in fl_X8_72) rfl ?_
  refine AR.iload_n (pc := 25) (j := 3) dX8_canSilence_25 rfl rfl ?_
  refine AR.iload_n (pc := 26) (j := 4) dX8_canSilence_26 rfl rfl ?_
  obtain ⟨r3, h3, h⟩ := bd_some h
  refine AR.callVN (pc := 27) (As := [.int x2, .int x3]) (st := []) (ci := 1) dX8_canSilence_27 ⟨cd_X1_hasSaid, im_X1_hasSaid, se_X1_hasSaid, ini_X1⟩ mn_X8_271 (A1_hasSaid x2 x3 r2 _ h3) ⟨rfl, pd_X1_hasSaid⟩ ⟨Nat.le_of_ble_eq_true rfl, Nat.le_of_ble_eq_true rfl⟩ ⟨rfl, rfl⟩ rfl rfl rfl (Nat.le_of_ble_eq_true rfl) ?_
  refine AR.if_ne (pc := 30) (tgt := 37) dX8_canSilence_30 (by decide) (fun c4 => ?_) (fun c4 => ?_)
  · replace h := ite_f c4 h
    refine AR.iconst (pc := 37) (v := 0) dX8_canSilence_37 (by decide) ?_
    exact AR.pick [1, 2, 3, 4, 0] rfl (A8_canSilence_38 x1 x2 x3 (r1.1) 0 (r3.2) r h)
  · replace h := ite_t c4 h
    refine AR.iconst (pc := 33) (v := 1) dX8_canSilence_33 (by decide) ?_
    refine AR.goto (pc := 34) (tgt := 38) dX8_canSilence_34 (by decide) ?_
    exact AR.pick [1, 2, 3, 4, 0] rfl (A8_canSilence_38 x1 x2 x3 (r1.1) 1 (r3.2) r h)
noncomputable def f8_dry_65 (k23 : Int32 × Int32 × HS → Option (Int32 × HS)) (x1 : Int32) (x2 : Int32) (x3 : Int32) (x4 : Int32) (σ : HS) : Option (Int32 × HS) :=
  k23 (x3, (x4 + 1), σ)
noncomputable def f8_dry_23_b (k23 : Int32 × Int32 × HS → Option (Int32 × HS)) (x1 : Int32) (x2 : Int32) (x3 : Int32) (x4 : Int32) (σ : HS) : Option (Int32 × HS) :=
  if ((σ.1 5 0) : Int32) ≤ x4 then
    some (x3, σ)
  else
    if (5 : Int32) ≤ x4 then
      some (x3, σ)
    else
      if (x4 : Int32) = x1 then
        f8_dry_65 k23 x1 x2 x3 x4 σ
      else
        bd (f8_canSilence x4 x1 x2 σ) fun r4 =>
        if (r4.1 : Int32) = 0 then
          f8_dry_65 k23 x1 x2 x3 x4 (r4.2)
        else
          f8_dry_65 k23 x1 x2 (x3 ||| (1 <<< (x4 &&& 31))) x4 (r4.2)
noncomputable def f8_dry_23 (x1 : Int32) (x2 : Int32) (p : Int32 × Int32 × HS) : Option (Int32 × HS) :=
  wloop (fun k23 p => f8_dry_23_b k23 x1 x2 p.1 p.2.1 p.2.2) fuelN p
noncomputable def f8_dry (x1 : Int32) (x2 : Int32) (σ : HS) : Option (Int32 × HS) :=
  bd (f4_hasWord x1 x2 σ) fun r1 =>
  if (r1.1 : Int32) = 0 then
    some ((-1), r1.2)
  else
    bd (f8_planAhead (r1.2)) fun r3 =>
    f8_dry_23 x1 x2 (0, 0, r3)
set_option maxHeartbeats 4000000 in
set_option maxRecDepth 100000 in
theorem A8_dry_65 {l : Launch} (k23 : Int32 × Int32 × HS → Option (Int32 × HS)) (x1 : Int32) (x2 : Int32) (x3 : Int32) (x4 : Int32) (hk23 : ∀ (p : Int32 × Int32 × HS) (r : Int32 × HS), k23 p = some r → AR l RX8 cX8_dry 5 (some .int) (wsU yX8_dry cX8_dry 5 (some .int)) rm8_dry SC 23 [(0, .ref 0), (1, .int x1), (2, .int x2), (3, .int (p.1)), (4, .int (p.2.1))] [] p.2.2 (some (.int r.1), r.2)) (σ : HS) (r : Int32 × HS) (h : f8_dry_65 k23 x1 x2 x3 x4 σ = some r) : AR l RX8 cX8_dry 5 (some .int) (wsU yX8_dry cX8_dry 5 (some .int)) rm8_dry SC 65 [(0, .ref 0), (1, .int x1), (2, .int x2), (3, .int x3), (4, .int x4)] [] σ (some (.int r.1), r.2) := by
  unfold f8_dry_65 at h
  refine AR.iinc (pc := 65) (j := 4) (v := (x4 + 1)) (L2 := [(4, .int (x4 + 1)), (0, .ref 0), (1, .int x1), (2, .int x2), (3, .int x3)]) dX8_dry_65 rfl rfl (by decide) rfl ?_
  refine AR.goto (pc := 68) (tgt := 23) dX8_dry_68 (by decide) ?_
  exact AR.pick [1, 2, 3, 4, 0] rfl (hk23 (x3, (x4 + 1), σ) r h)
set_option maxHeartbeats 4000000 in
set_option maxRecDepth 100000 in
theorem A8_dry_23_b {l : Launch} (k23 : Int32 × Int32 × HS → Option (Int32 × HS)) (x1 : Int32) (x2 : Int32) (x3 : Int32) (x4 : Int32) (hk23 : ∀ (p : Int32 × Int32 × HS) (r : Int32 × HS), k23 p = some r → AR l RX8 cX8_dry 5 (some .int) (wsU yX8_dry cX8_dry 5 (some .int)) rm8_dry SC 23 [(0, .ref 0), (1, .int x1), (2, .int x2), (3, .int (p.1)), (4, .int (p.2.1))] [] p.2.2 (some (.int r.1), r.2)) (σ : HS) (r : Int32 × HS) (h : f8_dry_23_b k23 x1 x2 x3 x4 σ = some r) : AR l RX8 cX8_dry 5 (some .int) (wsU yX8_dry cX8_dry 5 (some .int)) rm8_dry SC 23 [(0, .ref 0), (1, .int x1), (2, .int x2), (3, .int x3), (4, .int x4)] [] σ (some (.int r.1), r.2) := by
  unfold f8_dry_23_b at h
  refine AR.iload (pc := 23) (j := 4) dX8_dry_23 rfl ?_
  refine AR.aload_n (pc := 25) (j := 0) dX8_dry_25 rfl rfl ?_
  refine AR.getf (pc := 26) (ci := 8) (j := 1) (d := 5 + 2) (v := .ref 5) (T := TX8) dX8_dry_26 rfl rfl rfl (by decide) (fun w hw => wsU_in (uw_X8 w hw)) (wsU_in fl_X8_32) rfl ?_
  refine AR.getfN (pc := 29) (ci := 4) (j := 0) (d := 0) (v := .int (σ.1 5 0)) (T := TX4) dX8_dry_29 rfl rfl rfl (by decide) (fun w hw => wsU_in (uw_X4 w hw)) fn_X8_132 rfl ?_
  refine AR.icmp_ge (pc := 32) (tgt := 71) dX8_dry_32 (by decide) (fun c1 => ?_) (fun c1 => ?_)
  · replace h := ite_t c1 h
    refine AR.iload_n (pc := 71) (j := 3) dX8_dry_71 rfl rfl ?_
    exact AR.iret (pc := 72) rfl dX8_dry_72 (hrI (Option.some.inj h))
  · replace h := ite_f c1 h
    refine AR.iload (pc := 35) (j := 4) dX8_dry_35 rfl ?_
    refine AR.iconst (pc := 37) (v := 5) dX8_dry_37 (by decide) ?_
    refine AR.icmp_ge (pc := 38) (tgt := 71) dX8_dry_38 (by decide) (fun c2 => ?_) (fun c2 => ?_)
    · replace h := ite_t c2 h
      refine AR.iload_n (pc := 71) (j := 3) dX8_dry_71 rfl rfl ?_
      exact AR.iret (pc := 72) rfl dX8_dry_72 (hrI (Option.some.inj h))
    · replace h := ite_f c2 h
      refine AR.iload (pc := 41) (j := 4) dX8_dry_41 rfl ?_
      refine AR.iload_n (pc := 43) (j := 1) dX8_dry_43 rfl rfl ?_
      refine AR.icmp_eq (pc := 44) (tgt := 65) dX8_dry_44 (by decide) (fun c3 => ?_) (fun c3 => ?_)
      · replace h := ite_t c3 h
        exact AR.pick [0, 1, 2, 3, 4] rfl (A8_dry_65 k23 x1 x2 x3 x4 hk23 σ r h)
      · replace h := ite_f c3 h
        refine AR.aload_n (pc := 47) (j := 0) dX8_dry_47 rfl rfl ?_
        refine AR.iload (pc := 48) (j := 4) dX8_dry_48 rfl ?_
        refine AR.iload_n (pc := 50) (j := 1) dX8_dry_50 rfl rfl ?_
        refine AR.iload_n (pc := 51) (j := 2) dX8_dry_51 rfl rfl ?_
        obtain ⟨r4, h4, h⟩ := bd_some h
        refine AR.callV (pc := 52) (As := [.int x4, .int x1, .int x2]) (st := []) (ci := 8) dX8_dry_52 ⟨cd_X8_canSilence, im_X8_canSilence, se_X8_canSilence, ini_X8⟩ ml_X8_268 (A8_canSilence x4 x1 x2 σ _ h4) ⟨rfl, pd_X8_canSilence⟩ ⟨Nat.le_of_ble_eq_true rfl, Nat.le_of_ble_eq_true rfl⟩ ⟨rfl, rfl⟩ rfl rfl rfl (Nat.le_of_ble_eq_true rfl) ?_
        refine AR.if_eq (pc := 55) (tgt := 65) dX8_dry_55 (by decide) (fun c5 => ?_) (fun c5 => ?_)
        · replace h := ite_t c5 h
          exact AR.pick [0, 1, 2, 3, 4] rfl (A8_dry_65 k23 x1 x2 x3 x4 hk23 (r4.2) r h)
        · replace h := ite_f c5 h
          refine AR.iload_n (pc := 58) (j := 3) dX8_dry_58 rfl rfl ?_
          refine AR.iconst (pc := 59) (v := 1) dX8_dry_59 (by decide) ?_
          refine AR.iload (pc := 60) (j := 4) dX8_dry_60 rfl ?_
          refine AR.ishl (pc := 62) dX8_dry_62 ?_
          refine AR.ior (pc := 63) dX8_dry_63 ?_
          refine AR.istore_n (pc := 64) (L2 := [(3, .int (x3 ||| (1 <<< (x4 &&& 31)))), (0, .ref 0), (1, .int x1), (2, .int x2), (4, .int x4)]) dX8_dry_64 rfl (by decide) rfl ?_
          exact AR.pick [1, 2, 3, 0, 4] rfl (A8_dry_65 k23 x1 x2 (x3 ||| (1 <<< (x4 &&& 31))) x4 hk23 (r4.2) r h)
theorem A8_dry_23 {l : Launch} (x1 : Int32) (x2 : Int32) (p : Int32 × Int32 × HS) (r : Int32 × HS) (h : f8_dry_23 x1 x2 p = some r) : AR l RX8 cX8_dry 5 (some .int) (wsU yX8_dry cX8_dry 5 (some .int)) rm8_dry SC 23 [(0, .ref 0), (1, .int x1), (2, .int x2), (3, .int (p.1)), (4, .int (p.2.1))] [] p.2.2 (some (.int r.1), r.2) := by
  unfold f8_dry_23 at h
  exact wloop_run (body := fun k23 p => f8_dry_23_b k23 x1 x2 p.1 p.2.1 p.2.2) (Q := fun p r => AR l RX8 cX8_dry 5 (some .int) (wsU yX8_dry cX8_dry 5 (some .int)) rm8_dry SC 23 [(0, .ref 0), (1, .int x1), (2, .int x2), (3, .int (p.1)), (4, .int (p.2.1))] [] p.2.2 (some (.int r.1), r.2)) (fun k23 hk23 p r h => A8_dry_23_b k23 x1 x2 p.1 p.2.1 hk23 p.2.2 r h) fuelN p r h
set_option maxHeartbeats 4000000 in
set_option maxRecDepth 100000 in
theorem A8_dry {l : Launch} (x1 : Int32) (x2 : Int32) (σ : HS) (r : Int32 × HS) (h : f8_dry x1 x2 σ = some r) : MA l yX8_dry (wsU yX8_dry cX8_dry 5 (some .int)) rm8_dry SC [.ref 0, .int x1, .int x2] σ (some (.int r.1), r.2) := by
  refine MA.of (L := [(0, .ref 0), (1, .int x1), (2, .int x2)]) pn_X8_dry rfl (fun _ => Nat.le_of_ble_eq_true rfl) (fun _ => rfl) ?_
  unfold f8_dry at h
  refine AR.aload_n (pc := 0) (j := 0) dX8_dry_0 rfl rfl ?_
  refine AR.getf (pc := 1) (ci := 8) (j := 1) (d := 5 + 2) (v := .ref 5) (T := TX8) dX8_dry_1 rfl rfl rfl (by decide) (fun w hw => wsU_in (uw_X8 w hw)) (wsU_in fl_X8_32) rfl ?_
  refine AR.iload_n (pc := 4) (j := 1) dX8_dry_4 rfl rfl ?_
  refine AR.iload_n (pc := 5) (j := 2) dX8_dry_5 rfl rfl ?_
  obtain ⟨r1, h1, h⟩ := bd_some h
  refine AR.callVN (pc := 6) (As := [.int x1, .int x2]) (st := []) (ci := 4) dX8_dry_6 ⟨cd_X4_hasWord, im_X4_hasWord, se_X4_hasWord, ini_X4⟩ mn_X8_147 (A4_hasWord x1 x2 σ _ h1) ⟨rfl, pd_X4_hasWord⟩ ⟨Nat.le_of_ble_eq_true rfl, Nat.le_of_ble_eq_true rfl⟩ ⟨rfl, rfl⟩ rfl rfl rfl (Nat.le_of_ble_eq_true rfl) ?_
  refine AR.if_ne (pc := 9) (tgt := 14) dX8_dry_9 (by decide) (fun c2 => ?_) (fun c2 => ?_)
  · replace h := ite_f c2 h
    refine AR.aload_n (pc := 14) (j := 0) dX8_dry_14 rfl rfl ?_
    obtain ⟨r3, h3, h⟩ := bd_some h
    refine AR.callV (pc := 15) (As := []) (st := []) (ci := 8) dX8_dry_15 ⟨cd_X8_planAhead, im_X8_planAhead, se_X8_planAhead, ini_X8⟩ ml_X8_216 (A8_planAhead (r1.2) _ h3) ⟨rfl, pd_X8_planAhead⟩ ⟨Nat.le_of_ble_eq_true rfl, Nat.le_of_ble_eq_true rfl⟩ ⟨rfl, rfl⟩ rfl rfl rfl (Nat.le_of_ble_eq_true rfl) ?_
    refine AR.iconst (pc := 18) (v := 0) dX8_dry_18 (by decide) ?_
    refine AR.istore_n (pc := 19) (L2 := [(3, .int 0), (0, .ref 0), (1, .int x1), (2, .int x2)]) dX8_dry_19 rfl (by decide) rfl ?_
    refine AR.iconst (pc := 20) (v := 0) dX8_dry_20 (by decide) ?_
    refine AR.istore (pc := 21) (L2 := [(4, .int 0), (3, .int 0), (0, .ref 0), (1, .int x1), (2, .int x2)]) dX8_dry_21 (by decide) rfl ?_
    exact AR.pick [2, 3, 4, 1, 0] rfl (A8_dry_23 x1 x2 (0, 0, r3) r h)
  · replace h := ite_t c2 h
    refine AR.iconst (pc := 12) (v := (-1)) dX8_dry_12 (by decide) ?_
    exact AR.iret (pc := 13) rfl dX8_dry_13 (hrI (Option.some.inj h))
noncomputable def f8_day_81 (σ : HS) : Option (Int32 × HS) :=
  bd (f8_told (-2) σ) fun r1 =>
  some (r1.1, r1.2)
noncomputable def f8_day_151 (x4 : Int32) (σ : HS) : Option (Int32 × HS) :=
  bd (f2_close x4 σ) fun r1 =>
  bd (f8_told (r1.1) (r1.2)) fun r2 =>
  some (r2.1, r2.2)
noncomputable def f8_day_110_b (k110 : Int32 × HS → Option (Int32 × HS)) (x1 : Int32) (x3 : Int32) (x4 : Int32) (x5 : Int32) (x7 : Int32) (σ : HS) : Option (Int32 × HS) :=
  if (x5 : Int32) ≤ x7 then
    f8_day_151 x4 σ
  else
    if (6 : Int32) ≤ x7 then
      f8_day_151 x4 σ
    else
      bd (f7_valueAt x1 (x3 + x7) σ) fun r3 =>
      bd (f2_note x7 (r3.1) (r3.2)) fun r4 =>
      k110 ((x7 + 1), r4)
noncomputable def f8_day_110 (x1 : Int32) (x3 : Int32) (x4 : Int32) (x5 : Int32) (p : Int32 × HS) : Option (Int32 × HS) :=
  wloop (fun k110 p => f8_day_110_b k110 x1 x3 x4 x5 p.1 p.2) fuelN p
noncomputable def f8_day (x1 : Int32) (x2 : Int32) (x3 : Int32) (x4 : Int32) (σ : HS) : Option (Int32 × HS) :=
  bd (f0_turns 20 σ) fun r1 =>
  bd (f7_partRefusal x1 x2 x3 (r1.1) (r1.2)) fun r2 =>
  if (r2.1 : Int32) = 0 then
    if (((r2.2).1 5 0) : Int32) = 0 then
      bd (f8_told (-3) (r2.2)) fun r12 =>
      some (r12.1, r12.2)
    else
      bd (f8_areWords x1 x3 (r1.1) (r2.2)) fun r5 =>
      if (r5.1 : Int32) = 0 then
        bd (f8_told (-1) (r5.2)) fun r11 =>
        some (r11.1, r11.2)
      else
        if (x4 : Int32) < 0 then
          f8_day_81 (r5.2)
        else
          if (x4 : Int32) ≤ 99 then
            if (((r5.2).1 40 3) : Int32) < 6 then
              f8_day_110 x1 x3 x4 (r1.1) (0, r5.2)
            else
              bd (f8_told (-4) (r5.2)) fun r10 =>
              some (r10.1, r10.2)
          else
            f8_day_81 (r5.2)
  else
    bd (f8_told (r2.1) (r2.2)) fun r13 =>
    some (r13.1, r13.2)
set_option maxHeartbeats 4000000 in
set_option maxRecDepth 100000 in
theorem A8_day_81 {l : Launch} (σ : HS) (r : Int32 × HS) (h : f8_day_81 σ = some r) : AR l RX8 cX8_day 8 (some .int) (wsU yX8_day cX8_day 8 (some .int)) rm8_day SC 81 [(0, .ref 0)] [] σ (some (.int r.1), r.2) := by
  unfold f8_day_81 at h
  refine AR.aload_n (pc := 81) (j := 0) dX8_day_81 rfl rfl ?_
  refine AR.bipush (pc := 82) (v := (-2)) dX8_day_82 (by decide) ?_
  obtain ⟨r1, h1, h⟩ := bd_some h
  refine AR.callV (pc := 84) (As := [.int (-2)]) (st := []) (ci := 8) dX8_day_84 ⟨cd_X8_told, im_X8_told, se_X8_told, ini_X8⟩ ml_X8_109 (A8_told (-2) σ _ h1) ⟨rfl, pd_X8_told⟩ ⟨Nat.le_of_ble_eq_true rfl, Nat.le_of_ble_eq_true rfl⟩ ⟨rfl, rfl⟩ rfl rfl rfl (Nat.le_of_ble_eq_true rfl) ?_
  exact AR.iret (pc := 87) rfl dX8_day_87 (hrI (Option.some.inj h))
set_option maxHeartbeats 4000000 in
set_option maxRecDepth 100000 in
theorem A8_day_151 {l : Launch} (x4 : Int32) (σ : HS) (r : Int32 × HS) (h : f8_day_151 x4 σ = some r) : AR l RX8 cX8_day 8 (some .int) (wsU yX8_day cX8_day 8 (some .int)) rm8_day SC 151 [(0, .ref 0), (4, .int x4)] [] σ (some (.int r.1), r.2) := by
  unfold f8_day_151 at h
  refine AR.aload_n (pc := 151) (j := 0) dX8_day_151 rfl rfl ?_
  refine AR.aload_n (pc := 152) (j := 0) dX8_day_152 rfl rfl ?_
  refine AR.getf (pc := 153) (ci := 8) (j := 9) (d := 40 + 2) (v := .ref 40) (T := TX8) dX8_day_153 rfl rfl rfl (by decide) (fun w hw => wsU_in (uw_X8 w hw)) (wsU_in fl_X8_88) rfl ?_
  refine AR.iload (pc := 156) (j := 1) dX8_day_156 rfl ?_
  obtain ⟨r1, h1, h⟩ := bd_some h
  refine AR.callVN (pc := 158) (As := [.int x4]) (st := [.ref 0]) (ci := 2) dX8_day_158 ⟨cd_X2_close, im_X2_close, se_X2_close, ini_X2⟩ mn_X8_278 (A2_close x4 σ _ h1) ⟨rfl, pd_X2_close⟩ ⟨Nat.le_of_ble_eq_true rfl, Nat.le_of_ble_eq_true rfl⟩ ⟨rfl, rfl⟩ rfl rfl rfl (Nat.le_of_ble_eq_true rfl) ?_
  obtain ⟨r2, h2, h⟩ := bd_some h
  refine AR.callV (pc := 161) (As := [.int (r1.1)]) (st := []) (ci := 8) dX8_day_161 ⟨cd_X8_told, im_X8_told, se_X8_told, ini_X8⟩ ml_X8_109 (A8_told (r1.1) (r1.2) _ h2) ⟨rfl, pd_X8_told⟩ ⟨Nat.le_of_ble_eq_true rfl, Nat.le_of_ble_eq_true rfl⟩ ⟨rfl, rfl⟩ rfl rfl rfl (Nat.le_of_ble_eq_true rfl) ?_
  exact AR.iret (pc := 164) rfl dX8_day_164 (hrI (Option.some.inj h))
set_option maxHeartbeats 4000000 in
set_option maxRecDepth 100000 in
theorem A8_day_110_b {l : Launch} (k110 : Int32 × HS → Option (Int32 × HS)) (x1 : Int32) (x3 : Int32) (x4 : Int32) (x5 : Int32) (x7 : Int32) (hk110 : ∀ (p : Int32 × HS) (r : Int32 × HS), k110 p = some r → AR l RX8 cX8_day 8 (some .int) (wsU yX8_day cX8_day 8 (some .int)) rm8_day SC 110 [(0, .ref 0), (1, .int x1), (3, .int x3), (4, .int x4), (5, .int x5), (7, .int (p.1))] [] p.2 (some (.int r.1), r.2)) (σ : HS) (r : Int32 × HS) (h : f8_day_110_b k110 x1 x3 x4 x5 x7 σ = some r) : AR l RX8 cX8_day 8 (some .int) (wsU yX8_day cX8_day 8 (some .int)) rm8_day SC 110 [(0, .ref 0), (1, .int x1), (3, .int x3), (4, .int x4), (5, .int x5), (7, .int x7)] [] σ (some (.int r.1), r.2) := by
  unfold f8_day_110_b at h
  refine AR.iload (pc := 110) (j := 5) dX8_day_110 rfl ?_
  refine AR.iload (pc := 112) (j := 4) dX8_day_112 rfl ?_
  refine AR.icmp_ge (pc := 114) (tgt := 151) dX8_day_114 (by decide) (fun c1 => ?_) (fun c1 => ?_)
  · replace h := ite_t c1 h
    exact AR.pick [0, 3] rfl (A8_day_151 x4 σ r h)
  · replace h := ite_f c1 h
    refine AR.iload (pc := 117) (j := 5) dX8_day_117 rfl ?_
    refine AR.bipush (pc := 119) (v := 6) dX8_day_119 (by decide) ?_
    refine AR.icmp_ge (pc := 121) (tgt := 151) dX8_day_121 (by decide) (fun c2 => ?_) (fun c2 => ?_)
    · replace h := ite_t c2 h
      exact AR.pick [0, 3] rfl (A8_day_151 x4 σ r h)
    · replace h := ite_f c2 h
      refine AR.aload_n (pc := 124) (j := 0) dX8_day_124 rfl rfl ?_
      refine AR.getf (pc := 125) (ci := 8) (j := 9) (d := 40 + 2) (v := .ref 40) (T := TX8) dX8_day_125 rfl rfl rfl (by decide) (fun w hw => wsU_in (uw_X8 w hw)) (wsU_in fl_X8_88) rfl ?_
      refine AR.iload (pc := 128) (j := 5) dX8_day_128 rfl ?_
      refine AR.aload_n (pc := 130) (j := 0) dX8_day_130 rfl rfl ?_
      refine AR.getf (pc := 131) (ci := 8) (j := 0) (d := 1 + 2) (v := .ref 1) (T := TX8) dX8_day_131 rfl rfl rfl (by decide) (fun w hw => wsU_in (uw_X8 w hw)) (wsU_in fl_X8_25) rfl ?_
      refine AR.iload_n (pc := 134) (j := 1) dX8_day_134 rfl rfl ?_
      refine AR.iload_n (pc := 135) (j := 2) dX8_day_135 rfl rfl ?_
      refine AR.iload (pc := 136) (j := 5) dX8_day_136 rfl ?_
      refine AR.iadd (pc := 138) dX8_day_138 ?_
      obtain ⟨r3, h3, h⟩ := bd_some h
      refine AR.callVN (pc := 139) (As := [.int x1, .int (x3 + x7)]) (st := [.int x7, .ref 40]) (ci := 7) dX8_day_139 ⟨cd_X7_valueAt, im_X7_valueAt, se_X7_valueAt, ini_X7⟩ mn_X8_200 (A7_valueAt x1 (x3 + x7) σ _ h3) ⟨rfl, pd_X7_valueAt⟩ ⟨Nat.le_of_ble_eq_true rfl, Nat.le_of_ble_eq_true rfl⟩ ⟨rfl, rfl⟩ rfl rfl rfl (Nat.le_of_ble_eq_true rfl) ?_
      obtain ⟨r4, h4, h⟩ := bd_some h
      refine AR.callVN (pc := 142) (As := [.int x7, .int (r3.1)]) (st := []) (ci := 2) dX8_day_142 ⟨cd_X2_note, im_X2_note, se_X2_note, ini_X2⟩ mn_X8_275 (A2_note x7 (r3.1) (r3.2) _ h4) ⟨rfl, pd_X2_note⟩ ⟨Nat.le_of_ble_eq_true rfl, Nat.le_of_ble_eq_true rfl⟩ ⟨rfl, rfl⟩ rfl rfl rfl (Nat.le_of_ble_eq_true rfl) ?_
      refine AR.iinc (pc := 145) (j := 5) (v := (x7 + 1)) (L2 := [(7, .int (x7 + 1)), (0, .ref 0), (1, .int x1), (3, .int x3), (4, .int x4), (5, .int x5)]) dX8_day_145 rfl rfl (by decide) rfl ?_
      refine AR.goto (pc := 148) (tgt := 110) dX8_day_148 (by decide) ?_
      exact AR.pick [1, 2, 3, 4, 5, 0] rfl (hk110 ((x7 + 1), r4) r h)
theorem A8_day_110 {l : Launch} (x1 : Int32) (x3 : Int32) (x4 : Int32) (x5 : Int32) (p : Int32 × HS) (r : Int32 × HS) (h : f8_day_110 x1 x3 x4 x5 p = some r) : AR l RX8 cX8_day 8 (some .int) (wsU yX8_day cX8_day 8 (some .int)) rm8_day SC 110 [(0, .ref 0), (1, .int x1), (3, .int x3), (4, .int x4), (5, .int x5), (7, .int (p.1))] [] p.2 (some (.int r.1), r.2) := by
  unfold f8_day_110 at h
  exact wloop_run (body := fun k110 p => f8_day_110_b k110 x1 x3 x4 x5 p.1 p.2) (Q := fun p r => AR l RX8 cX8_day 8 (some .int) (wsU yX8_day cX8_day 8 (some .int)) rm8_day SC 110 [(0, .ref 0), (1, .int x1), (3, .int x3), (4, .int x4), (5, .int x5), (7, .int (p.1))] [] p.2 (some (.int r.1), r.2)) (fun k110 hk110 p r h => A8_day_110_b k110 x1 x3 x4 x5 p.1 hk110 p.2 r h) fuelN p r h
set_option maxHeartbeats 4000000 in
set_option maxRecDepth 100000 in
theorem A8_day {l : Launch} (x1 : Int32) (x2 : Int32) (x3 : Int32) (x4 : Int32) (σ : HS) (r : Int32 × HS) (h : f8_day x1 x2 x3 x4 σ = some r) : MA l yX8_day (wsU yX8_day cX8_day 8 (some .int)) rm8_day SC [.ref 0, .int x1, .int x2, .int x3, .int x4] σ (some (.int r.1), r.2) := by
  refine MA.of (L := [(0, .ref 0), (1, .int x1), (2, .int x2), (3, .int x3), (4, .int x4)]) pn_X8_day rfl (fun _ => Nat.le_of_ble_eq_true rfl) (fun _ => rfl) ?_
  unfold f8_day at h
  refine AR.aload_n (pc := 0) (j := 0) dX8_day_0 rfl rfl ?_
  refine AR.getf (pc := 1) (ci := 8) (j := 3) (d := 20 + 2) (v := .ref 20) (T := TX8) dX8_day_1 rfl rfl rfl (by decide) (fun w hw => wsU_in (uw_X8 w hw)) (wsU_in fl_X8_54) rfl ?_
  obtain ⟨r1, h1, h⟩ := bd_some h
  refine AR.callVN (pc := 4) (As := []) (st := []) (ci := 0) dX8_day_4 ⟨cd_X0_turns, im_X0_turns, se_X0_turns, ini_X0⟩ mn_X8_189 (A0_turns 20 grp20 σ _ h1) ⟨rfl, pd_X0_turns⟩ ⟨Nat.le_of_ble_eq_true rfl, Nat.le_of_ble_eq_true rfl⟩ ⟨rfl, rfl⟩ rfl rfl rfl (Nat.le_of_ble_eq_true rfl) ?_
  refine AR.istore (pc := 7) (L2 := [(5, .int (r1.1)), (0, .ref 0), (1, .int x1), (2, .int x2), (3, .int x3), (4, .int x4)]) dX8_day_7 (by decide) rfl ?_
  refine AR.aload_n (pc := 9) (j := 1) dX8_day_9 rfl rfl ?_
  refine AR.getf (pc := 10) (ci := 8) (j := 0) (d := 1 + 2) (v := .ref 1) (T := TX8) dX8_day_10 rfl rfl rfl (by decide) (fun w hw => wsU_in (uw_X8 w hw)) (wsU_in fl_X8_25) rfl ?_
  refine AR.iload_n (pc := 13) (j := 2) dX8_day_13 rfl rfl ?_
  refine AR.iload_n (pc := 14) (j := 3) dX8_day_14 rfl rfl ?_
  refine AR.iload_n (pc := 15) (j := 4) dX8_day_15 rfl rfl ?_
  refine AR.iload (pc := 16) (j := 0) dX8_day_16 rfl ?_
  obtain ⟨r2, h2, h⟩ := bd_some h
  refine AR.callVN (pc := 18) (As := [.int x1, .int x2, .int x3, .int (r1.1)]) (st := []) (ci := 7) dX8_day_18 ⟨cd_X7_partRefusal, im_X7_partRefusal, se_X7_partRefusal, ini_X7⟩ mn_X8_105 (A7_partRefusal x1 x2 x3 (r1.1) (r1.2) _ h2) ⟨rfl, pd_X7_partRefusal⟩ ⟨Nat.le_of_ble_eq_true rfl, Nat.le_of_ble_eq_true rfl⟩ ⟨rfl, rfl⟩ rfl rfl rfl (Nat.le_of_ble_eq_true rfl) ?_
  refine AR.istore (pc := 21) (L2 := [(6, .int (r2.1)), (5, .int (r1.1)), (0, .ref 0), (1, .int x1), (2, .int x2), (3, .int x3), (4, .int x4)]) dX8_day_21 (by decide) rfl ?_
  refine AR.iload (pc := 23) (j := 0) dX8_day_23 rfl ?_
  refine AR.if_eq (pc := 25) (tgt := 35) dX8_day_25 (by decide) (fun c3 => ?_) (fun c3 => ?_)
  · replace h := ite_t c3 h
    refine AR.aload_n (pc := 35) (j := 2) dX8_day_35 rfl rfl ?_
    refine AR.getf (pc := 36) (ci := 8) (j := 1) (d := 5 + 2) (v := .ref 5) (T := TX8) dX8_day_36 rfl rfl rfl (by decide) (fun w hw => wsU_in (uw_X8 w hw)) (wsU_in fl_X8_32) rfl ?_
    refine AR.getfN (pc := 39) (ci := 4) (j := 0) (d := 0) (v := .int ((r2.2).1 5 0)) (T := TX4) dX8_day_39 rfl rfl rfl (by decide) (fun w hw => wsU_in (uw_X4 w hw)) fn_X8_132 rfl ?_
    refine AR.if_ne (pc := 42) (tgt := 52) dX8_day_42 (by decide) (fun c4 => ?_) (fun c4 => ?_)
    · replace h := ite_f c4 h
      refine AR.aload_n (pc := 52) (j := 2) dX8_day_52 rfl rfl ?_
      refine AR.iload_n (pc := 53) (j := 3) dX8_day_53 rfl rfl ?_
      refine AR.iload_n (pc := 54) (j := 5) dX8_day_54 rfl rfl ?_
      refine AR.iload (pc := 55) (j := 1) dX8_day_55 rfl ?_
      obtain ⟨r5, h5, h⟩ := bd_some h
      refine AR.callV (pc := 57) (As := [.int x1, .int x3, .int (r1.1)]) (st := []) (ci := 8) dX8_day_57 ⟨cd_X8_areWords, im_X8_areWords, se_X8_areWords, ini_X8⟩ ml_X8_193 (A8_areWords x1 x3 (r1.1) (r2.2) _ h5) ⟨rfl, pd_X8_areWords⟩ ⟨Nat.le_of_ble_eq_true rfl, Nat.le_of_ble_eq_true rfl⟩ ⟨rfl, rfl⟩ rfl rfl rfl (Nat.le_of_ble_eq_true rfl) ?_
      refine AR.if_ne (pc := 60) (tgt := 69) dX8_day_60 (by decide) (fun c6 => ?_) (fun c6 => ?_)
      · replace h := ite_f c6 h
        refine AR.iload (pc := 69) (j := 6) dX8_day_69 rfl ?_
        refine AR.if_lt (pc := 71) (tgt := 81) dX8_day_71 (by decide) (fun c7 => ?_) (fun c7 => ?_)
        · replace h := ite_t c7 h
          exact AR.pick [2] rfl (A8_day_81 (r5.2) r h)
        · replace h := ite_f c7 h
          refine AR.iload (pc := 74) (j := 6) dX8_day_74 rfl ?_
          refine AR.bipush (pc := 76) (v := 99) dX8_day_76 (by decide) ?_
          refine AR.icmp_le (pc := 78) (tgt := 88) dX8_day_78 (by decide) (fun c8 => ?_) (fun c8 => ?_)
          · replace h := ite_t c8 h
            refine AR.aload_n (pc := 88) (j := 2) dX8_day_88 rfl rfl ?_
            refine AR.getf (pc := 89) (ci := 8) (j := 9) (d := 40 + 2) (v := .ref 40) (T := TX8) dX8_day_89 rfl rfl rfl (by decide) (fun w hw => wsU_in (uw_X8 w hw)) (wsU_in fl_X8_88) rfl ?_
            refine AR.getfN (pc := 92) (ci := 2) (j := 3) (d := 0) (v := .int ((r5.2).1 40 3)) (T := TX2) dX8_day_92 rfl rfl rfl (by decide) (fun w hw => wsU_in (uw_X2 w hw)) fn_X8_274 rfl ?_
            refine AR.bipush (pc := 95) (v := 6) dX8_day_95 (by decide) ?_
            refine AR.icmp_lt (pc := 97) (tgt := 107) dX8_day_97 (by decide) (fun c9 => ?_) (fun c9 => ?_)
            · replace h := ite_t c9 h
              refine AR.iconst (pc := 107) (v := 0) dX8_day_107 (by decide) ?_
              refine AR.istore (pc := 108) (L2 := [(7, .int 0), (6, .int (r2.1)), (5, .int (r1.1)), (0, .ref 0), (1, .int x1), (2, .int x2), (3, .int x3), (4, .int x4)]) dX8_day_108 (by decide) rfl ?_
              exact AR.pick [3, 4, 6, 7, 2, 0] rfl (A8_day_110 x1 x3 x4 (r1.1) (0, r5.2) r h)
            · replace h := ite_f c9 h
              refine AR.aload_n (pc := 100) (j := 2) dX8_day_100 rfl rfl ?_
              refine AR.bipush (pc := 101) (v := (-4)) dX8_day_101 (by decide) ?_
              obtain ⟨r10, h10, h⟩ := bd_some h
              refine AR.callV (pc := 103) (As := [.int (-4)]) (st := []) (ci := 8) dX8_day_103 ⟨cd_X8_told, im_X8_told, se_X8_told, ini_X8⟩ ml_X8_109 (A8_told (-4) (r5.2) _ h10) ⟨rfl, pd_X8_told⟩ ⟨Nat.le_of_ble_eq_true rfl, Nat.le_of_ble_eq_true rfl⟩ ⟨rfl, rfl⟩ rfl rfl rfl (Nat.le_of_ble_eq_true rfl) ?_
              exact AR.iret (pc := 106) rfl dX8_day_106 (hrI (Option.some.inj h))
          · replace h := ite_f c8 h
            exact AR.pick [2] rfl (A8_day_81 (r5.2) r h)
      · replace h := ite_t c6 h
        refine AR.aload_n (pc := 63) (j := 2) dX8_day_63 rfl rfl ?_
        refine AR.iconst (pc := 64) (v := (-1)) dX8_day_64 (by decide) ?_
        obtain ⟨r11, h11, h⟩ := bd_some h
        refine AR.callV (pc := 65) (As := [.int (-1)]) (st := []) (ci := 8) dX8_day_65 ⟨cd_X8_told, im_X8_told, se_X8_told, ini_X8⟩ ml_X8_109 (A8_told (-1) (r5.2) _ h11) ⟨rfl, pd_X8_told⟩ ⟨Nat.le_of_ble_eq_true rfl, Nat.le_of_ble_eq_true rfl⟩ ⟨rfl, rfl⟩ rfl rfl rfl (Nat.le_of_ble_eq_true rfl) ?_
        exact AR.iret (pc := 68) rfl dX8_day_68 (hrI (Option.some.inj h))
    · replace h := ite_t c4 h
      refine AR.aload_n (pc := 45) (j := 2) dX8_day_45 rfl rfl ?_
      refine AR.bipush (pc := 46) (v := (-3)) dX8_day_46 (by decide) ?_
      obtain ⟨r12, h12, h⟩ := bd_some h
      refine AR.callV (pc := 48) (As := [.int (-3)]) (st := []) (ci := 8) dX8_day_48 ⟨cd_X8_told, im_X8_told, se_X8_told, ini_X8⟩ ml_X8_109 (A8_told (-3) (r2.2) _ h12) ⟨rfl, pd_X8_told⟩ ⟨Nat.le_of_ble_eq_true rfl, Nat.le_of_ble_eq_true rfl⟩ ⟨rfl, rfl⟩ rfl rfl rfl (Nat.le_of_ble_eq_true rfl) ?_
      exact AR.iret (pc := 51) rfl dX8_day_51 (hrI (Option.some.inj h))
  · replace h := ite_f c3 h
    refine AR.aload_n (pc := 28) (j := 2) dX8_day_28 rfl rfl ?_
    refine AR.iload (pc := 29) (j := 0) dX8_day_29 rfl ?_
    obtain ⟨r13, h13, h⟩ := bd_some h
    refine AR.callV (pc := 31) (As := [.int (r2.1)]) (st := []) (ci := 8) dX8_day_31 ⟨cd_X8_told, im_X8_told, se_X8_told, ini_X8⟩ ml_X8_109 (A8_told (r2.1) (r2.2) _ h13) ⟨rfl, pd_X8_told⟩ ⟨Nat.le_of_ble_eq_true rfl, Nat.le_of_ble_eq_true rfl⟩ ⟨rfl, rfl⟩ rfl rfl rfl (Nat.le_of_ble_eq_true rfl) ?_
    exact AR.iret (pc := 34) rfl dX8_day_34 (hrI (Option.some.inj h))
noncomputable def f8_back (x1 : Int32) (σ : HS) : Option (Int32 × HS) :=
  if (x1 : Int32) < 0 then
    some ((-2), σ)
  else
    if (x1 : Int32) ≤ (σ.1 40 3) then
      some (((uI σ 40 3 ((σ.1 40 3) - x1)).1 40 3), (uI σ 40 3 ((σ.1 40 3) - x1)))
    else
      some ((-2), σ)
set_option maxHeartbeats 4000000 in
set_option maxRecDepth 100000 in
theorem A8_back {l : Launch} (x1 : Int32) (σ : HS) (r : Int32 × HS) (h : f8_back x1 σ = some r) : MA l yX8_back (wsU yX8_back cX8_back 2 (some .int)) rm8_back SC [.ref 0, .int x1] σ (some (.int r.1), r.2) := by
  refine MA.of (L := [(0, .ref 0), (1, .int x1)]) pn_X8_back rfl (fun _ => Nat.le_of_ble_eq_true rfl) (fun _ => rfl) ?_
  unfold f8_back at h
  refine AR.iload_n (pc := 0) (j := 1) dX8_back_0 rfl rfl ?_
  refine AR.if_lt (pc := 1) (tgt := 15) dX8_back_1 (by decide) (fun c1 => ?_) (fun c1 => ?_)
  · replace h := ite_t c1 h
    refine AR.bipush (pc := 15) (v := (-2)) dX8_back_15 (by decide) ?_
    exact AR.iret (pc := 17) rfl dX8_back_17 (hrI (Option.some.inj h))
  · replace h := ite_f c1 h
    refine AR.iload_n (pc := 4) (j := 1) dX8_back_4 rfl rfl ?_
    refine AR.aload_n (pc := 5) (j := 0) dX8_back_5 rfl rfl ?_
    refine AR.getf (pc := 6) (ci := 8) (j := 9) (d := 40 + 2) (v := .ref 40) (T := TX8) dX8_back_6 rfl rfl rfl (by decide) (fun w hw => wsU_in (uw_X8 w hw)) (wsU_in fl_X8_88) rfl ?_
    refine AR.getfN (pc := 9) (ci := 2) (j := 3) (d := 0) (v := .int (σ.1 40 3)) (T := TX2) dX8_back_9 rfl rfl rfl (by decide) (fun w hw => wsU_in (uw_X2 w hw)) fn_X8_274 rfl ?_
    refine AR.icmp_le (pc := 12) (tgt := 18) dX8_back_12 (by decide) (fun c2 => ?_) (fun c2 => ?_)
    · replace h := ite_t c2 h
      refine AR.aload_n (pc := 18) (j := 0) dX8_back_18 rfl rfl ?_
      refine AR.getf (pc := 19) (ci := 8) (j := 9) (d := 40 + 2) (v := .ref 40) (T := TX8) dX8_back_19 rfl rfl rfl (by decide) (fun w hw => wsU_in (uw_X8 w hw)) (wsU_in fl_X8_88) rfl ?_
      refine AR.dup (pc := 22) dX8_back_22 rfl ?_
      refine AR.getfN (pc := 23) (ci := 2) (j := 3) (d := 0) (v := .int (σ.1 40 3)) (T := TX2) dX8_back_23 rfl rfl rfl (by decide) (fun w hw => wsU_in (uw_X2 w hw)) fn_X8_274 rfl ?_
      refine AR.iload_n (pc := 26) (j := 1) dX8_back_26 rfl rfl ?_
      refine AR.isub (pc := 27) dX8_back_27 ?_
      refine AR.putIN (pc := 28) (ci := 2) (j := 3) (T := TX2) (ty0 := tyX2) (ty := .int) dX8_back_28 rfl rfl rfl (by decide) (fun w hw => wsU_in (uw_X2 w hw)) tyX2_ok nmX2 fn_X8_274 rfl (by decide +kernel) rfl rfl ?_
      refine AR.aload_n (pc := 31) (j := 0) dX8_back_31 rfl rfl ?_
      refine AR.getf (pc := 32) (ci := 8) (j := 9) (d := 40 + 2) (v := .ref 40) (T := TX8) dX8_back_32 rfl rfl rfl (by decide) (fun w hw => wsU_in (uw_X8 w hw)) (wsU_in fl_X8_88) rfl ?_
      refine AR.getfN (pc := 35) (ci := 2) (j := 3) (d := 0) (v := .int ((uI σ 40 3 ((σ.1 40 3) - x1)).1 40 3)) (T := TX2) dX8_back_35 rfl rfl rfl (by decide) (fun w hw => wsU_in (uw_X2 w hw)) fn_X8_274 rfl ?_
      exact AR.iret (pc := 38) rfl dX8_back_38 (hrI (Option.some.inj h))
    · replace h := ite_f c2 h
      refine AR.bipush (pc := 15) (v := (-2)) dX8_back_15 (by decide) ?_
      exact AR.iret (pc := 17) rfl dX8_back_17 (hrI (Option.some.inj h))
noncomputable def f8_guess_136 (x1 : Int32) (x2 : Int32) (x3 : Int32) (σ : HS) : Option (Int32 × HS) :=
  if (x1 : Int32) = 0 then
    some (x2, σ)
  else
    some (x3, σ)
noncomputable def f8_guess_124 (k59 : Int32 × Int32 × Int32 × HS → Option (Int32 × HS)) (k81 : Int32 × Int32 × Int32 × HS → Option (Int32 × HS)) (x1 : Int32) (x2 : Int32) (x3 : Int32) (x4 : Int32) (x5 : Int32) (σ : HS) : Option (Int32 × HS) :=
  k81 (x2, x3, (x5 + 1), σ)
noncomputable def f8_guess_123 (k59 : Int32 × Int32 × Int32 × HS → Option (Int32 × HS)) (k81 : Int32 × Int32 × Int32 × HS → Option (Int32 × HS)) (x1 : Int32) (x2 : Int32) (x4 : Int32) (x5 : Int32) (z0 : Int32) (σ : HS) : Option (Int32 × HS) :=
  f8_guess_124 k59 k81 x1 x2 z0 x4 x5 σ
noncomputable def f8_guess_81_b (k59 : Int32 × Int32 × Int32 × HS → Option (Int32 × HS)) (k81 : Int32 × Int32 × Int32 × HS → Option (Int32 × HS)) (x1 : Int32) (x2 : Int32) (x3 : Int32) (x4 : Int32) (x5 : Int32) (σ : HS) : Option (Int32 × HS) :=
  if (9 : Int32) < x5 then
    k59 (x2, x3, (x4 + 1), σ)
  else
    bd (f2_fits x4 x5 σ) fun r2 =>
    if (r2.1 : Int32) = 0 then
      f8_guess_124 k59 k81 x1 x2 x3 x4 x5 (r2.2)
    else
      if (x3 : Int32) = (-9) then
        f8_guess_123 k59 k81 x1 (x2 + 1) x4 x5 ((10 * x4) + x5) (r2.2)
      else
        f8_guess_123 k59 k81 x1 (x2 + 1) x4 x5 x3 (r2.2)
noncomputable def f8_guess_81 (k59 : Int32 × Int32 × Int32 × HS → Option (Int32 × HS)) (x1 : Int32) (x4 : Int32) (p : Int32 × Int32 × Int32 × HS) : Option (Int32 × HS) :=
  wloop (fun k81 p => f8_guess_81_b k59 k81 x1 p.1 p.2.1 x4 p.2.2.1 p.2.2.2) fuelN p
noncomputable def f8_guess_59_b (k59 : Int32 × Int32 × Int32 × HS → Option (Int32 × HS)) (x1 : Int32) (x2 : Int32) (x3 : Int32) (x4 : Int32) (σ : HS) : Option (Int32 × HS) :=
  if ((σ.1 40 3) : Int32) < x4 then
    f8_guess_136 x1 x2 x3 σ
  else
    if (6 : Int32) < x4 then
      f8_guess_136 x1 x2 x3 σ
    else
      f8_guess_81 k59 x1 x4 (x2, x3, 0, σ)
noncomputable def f8_guess_59 (x1 : Int32) (p : Int32 × Int32 × Int32 × HS) : Option (Int32 × HS) :=
  wloop (fun k59 p => f8_guess_59_b k59 x1 p.1 p.2.1 p.2.2.1 p.2.2.2) fuelN p
noncomputable def f8_guess_12 (x1 : Int32) (σ : HS) : Option (Int32 × HS) :=
  if ((σ.1 5 0) : Int32) = 0 then
    some ((-3), σ)
  else
    bd (f0_follow σ) fun r2 =>
    bd (f2_compare r2) fun r3 =>
    f8_guess_59 x1 (0, (-9), 0, r3)
noncomputable def f8_guess (x1 : Int32) (σ : HS) : Option (Int32 × HS) :=
  if (x1 : Int32) = 0 then
    f8_guess_12 x1 σ
  else
    if (x1 : Int32) = 1 then
      f8_guess_12 x1 σ
    else
      some ((-2), σ)
set_option maxHeartbeats 4000000 in
set_option maxRecDepth 100000 in
theorem A8_guess_136 {l : Launch} (x1 : Int32) (x2 : Int32) (x3 : Int32) (σ : HS) (r : Int32 × HS) (h : f8_guess_136 x1 x2 x3 σ = some r) : AR l RX8 cX8_guess 6 (some .int) (wsU yX8_guess cX8_guess 6 (some .int)) rm8_guess SC 136 [(1, .int x1), (2, .int x2), (3, .int x3)] [] σ (some (.int r.1), r.2) := by
  unfold f8_guess_136 at h
  refine AR.iload_n (pc := 136) (j := 0) dX8_guess_136 rfl rfl ?_
  refine AR.if_ne (pc := 137) (tgt := 144) dX8_guess_137 (by decide) (fun c1 => ?_) (fun c1 => ?_)
  · replace h := ite_f c1 h
    refine AR.iload_n (pc := 144) (j := 2) dX8_guess_144 rfl rfl ?_
    exact AR.iret (pc := 145) rfl dX8_guess_145 (hrI (Option.some.inj h))
  · replace h := ite_t c1 h
    refine AR.iload_n (pc := 140) (j := 1) dX8_guess_140 rfl rfl ?_
    refine AR.goto (pc := 141) (tgt := 145) dX8_guess_141 (by decide) ?_
    exact AR.iret (pc := 145) rfl dX8_guess_145 (hrI (Option.some.inj h))
set_option maxHeartbeats 4000000 in
set_option maxRecDepth 100000 in
theorem A8_guess_124 {l : Launch} (k59 : Int32 × Int32 × Int32 × HS → Option (Int32 × HS)) (k81 : Int32 × Int32 × Int32 × HS → Option (Int32 × HS)) (x1 : Int32) (x2 : Int32) (x3 : Int32) (x4 : Int32) (x5 : Int32) (hk59 : ∀ (p : Int32 × Int32 × Int32 × HS) (r : Int32 × HS), k59 p = some r → AR l RX8 cX8_guess 6 (some .int) (wsU yX8_guess cX8_guess 6 (some .int)) rm8_guess SC 59 [(0, .ref 0), (1, .int x1), (2, .int (p.1)), (3, .int (p.2.1)), (4, .int (p.2.2.1))] [] p.2.2.2 (some (.int r.1), r.2)) (hk81 : ∀ (p : Int32 × Int32 × Int32 × HS) (r : Int32 × HS), k81 p = some r → AR l RX8 cX8_guess 6 (some .int) (wsU yX8_guess cX8_guess 6 (some .int)) rm8_guess SC 81 [(0, .ref 0), (1, .int x1), (2, .int (p.1)), (3, .int (p.2.1)), (4, .int x4), (5, .int (p.2.2.1))] [] p.2.2.2 (some (.int r.1), r.2)) (σ : HS) (r : Int32 × HS) (h : f8_guess_124 k59 k81 x1 x2 x3 x4 x5 σ = some r) : AR l RX8 cX8_guess 6 (some .int) (wsU yX8_guess cX8_guess 6 (some .int)) rm8_guess SC 124 [(0, .ref 0), (1, .int x1), (2, .int x2), (3, .int x3), (4, .int x4), (5, .int x5)] [] σ (some (.int r.1), r.2) := by
  unfold f8_guess_124 at h
  refine AR.iinc (pc := 124) (j := 5) (v := (x5 + 1)) (L2 := [(5, .int (x5 + 1)), (0, .ref 0), (1, .int x1), (2, .int x2), (3, .int x3), (4, .int x4)]) dX8_guess_124 rfl rfl (by decide) rfl ?_
  refine AR.goto (pc := 127) (tgt := 81) dX8_guess_127 (by decide) ?_
  exact AR.pick [1, 2, 3, 4, 5, 0] rfl (hk81 (x2, x3, (x5 + 1), σ) r h)
set_option maxHeartbeats 4000000 in
set_option maxRecDepth 100000 in
theorem A8_guess_123 {l : Launch} (k59 : Int32 × Int32 × Int32 × HS → Option (Int32 × HS)) (k81 : Int32 × Int32 × Int32 × HS → Option (Int32 × HS)) (x1 : Int32) (x2 : Int32) (x4 : Int32) (x5 : Int32) (z0 : Int32) (hk59 : ∀ (p : Int32 × Int32 × Int32 × HS) (r : Int32 × HS), k59 p = some r → AR l RX8 cX8_guess 6 (some .int) (wsU yX8_guess cX8_guess 6 (some .int)) rm8_guess SC 59 [(0, .ref 0), (1, .int x1), (2, .int (p.1)), (3, .int (p.2.1)), (4, .int (p.2.2.1))] [] p.2.2.2 (some (.int r.1), r.2)) (hk81 : ∀ (p : Int32 × Int32 × Int32 × HS) (r : Int32 × HS), k81 p = some r → AR l RX8 cX8_guess 6 (some .int) (wsU yX8_guess cX8_guess 6 (some .int)) rm8_guess SC 81 [(0, .ref 0), (1, .int x1), (2, .int (p.1)), (3, .int (p.2.1)), (4, .int x4), (5, .int (p.2.2.1))] [] p.2.2.2 (some (.int r.1), r.2)) (σ : HS) (r : Int32 × HS) (h : f8_guess_123 k59 k81 x1 x2 x4 x5 z0 σ = some r) : AR l RX8 cX8_guess 6 (some .int) (wsU yX8_guess cX8_guess 6 (some .int)) rm8_guess SC 123 [(0, .ref 0), (1, .int x1), (2, .int x2), (4, .int x4), (5, .int x5)] [.int z0] σ (some (.int r.1), r.2) := by
  unfold f8_guess_123 at h
  refine AR.istore_n (pc := 123) (L2 := [(3, .int z0), (0, .ref 0), (1, .int x1), (2, .int x2), (4, .int x4), (5, .int x5)]) dX8_guess_123 rfl (by decide) rfl ?_
  exact AR.pick [1, 2, 3, 0, 4, 5] rfl (A8_guess_124 k59 k81 x1 x2 z0 x4 x5 hk59 hk81 σ r h)
set_option maxHeartbeats 4000000 in
set_option maxRecDepth 100000 in
theorem A8_guess_81_b {l : Launch} (k59 : Int32 × Int32 × Int32 × HS → Option (Int32 × HS)) (k81 : Int32 × Int32 × Int32 × HS → Option (Int32 × HS)) (x1 : Int32) (x2 : Int32) (x3 : Int32) (x4 : Int32) (x5 : Int32) (hk59 : ∀ (p : Int32 × Int32 × Int32 × HS) (r : Int32 × HS), k59 p = some r → AR l RX8 cX8_guess 6 (some .int) (wsU yX8_guess cX8_guess 6 (some .int)) rm8_guess SC 59 [(0, .ref 0), (1, .int x1), (2, .int (p.1)), (3, .int (p.2.1)), (4, .int (p.2.2.1))] [] p.2.2.2 (some (.int r.1), r.2)) (hk81 : ∀ (p : Int32 × Int32 × Int32 × HS) (r : Int32 × HS), k81 p = some r → AR l RX8 cX8_guess 6 (some .int) (wsU yX8_guess cX8_guess 6 (some .int)) rm8_guess SC 81 [(0, .ref 0), (1, .int x1), (2, .int (p.1)), (3, .int (p.2.1)), (4, .int x4), (5, .int (p.2.2.1))] [] p.2.2.2 (some (.int r.1), r.2)) (σ : HS) (r : Int32 × HS) (h : f8_guess_81_b k59 k81 x1 x2 x3 x4 x5 σ = some r) : AR l RX8 cX8_guess 6 (some .int) (wsU yX8_guess cX8_guess 6 (some .int)) rm8_guess SC 81 [(0, .ref 0), (1, .int x1), (2, .int x2), (3, .int x3), (4, .int x4), (5, .int x5)] [] σ (some (.int r.1), r.2) := by
  unfold f8_guess_81_b at h
  refine AR.iload (pc := 81) (j := 5) dX8_guess_81 rfl ?_
  refine AR.bipush (pc := 83) (v := 9) dX8_guess_83 (by decide) ?_
  refine AR.icmp_gt (pc := 85) (tgt := 130) dX8_guess_85 (by decide) (fun c1 => ?_) (fun c1 => ?_)
  · replace h := ite_t c1 h
    refine AR.iinc (pc := 130) (j := 4) (v := (x4 + 1)) (L2 := [(4, .int (x4 + 1)), (0, .ref 0), (1, .int x1), (2, .int x2), (3, .int x3), (5, .int x5)]) dX8_guess_130 rfl rfl (by decide) rfl ?_
    refine AR.goto (pc := 133) (tgt := 59) dX8_guess_133 (by decide) ?_
    exact AR.pick [1, 2, 3, 4, 0] rfl (hk59 (x2, x3, (x4 + 1), σ) r h)
  · replace h := ite_f c1 h
    refine AR.aload_n (pc := 88) (j := 0) dX8_guess_88 rfl rfl ?_
    refine AR.getf (pc := 89) (ci := 8) (j := 9) (d := 40 + 2) (v := .ref 40) (T := TX8) dX8_guess_89 rfl rfl rfl (by decide) (fun w hw => wsU_in (uw_X8 w hw)) (wsU_in fl_X8_88) rfl ?_
    refine AR.iload (pc := 92) (j := 4) dX8_guess_92 rfl ?_
    refine AR.iload (pc := 94) (j := 5) dX8_guess_94 rfl ?_
    obtain ⟨r2, h2, h⟩ := bd_some h
    refine AR.callVN (pc := 96) (As := [.int x4, .int x5]) (st := []) (ci := 2) dX8_guess_96 ⟨cd_X2_fits, im_X2_fits, se_X2_fits, ini_X2⟩ mn_X8_284 (A2_fits x4 x5 σ _ h2) ⟨rfl, pd_X2_fits⟩ ⟨Nat.le_of_ble_eq_true rfl, Nat.le_of_ble_eq_true rfl⟩ ⟨rfl, rfl⟩ rfl rfl rfl (Nat.le_of_ble_eq_true rfl) ?_
    refine AR.if_eq (pc := 99) (tgt := 124) dX8_guess_99 (by decide) (fun c3 => ?_) (fun c3 => ?_)
    · replace h := ite_t c3 h
      exact AR.pick [0, 1, 2, 3, 4, 5] rfl (A8_guess_124 k59 k81 x1 x2 x3 x4 x5 hk59 hk81 (r2.2) r h)
    · replace h := ite_f c3 h
      refine AR.iinc (pc := 102) (j := 2) (v := (x2 + 1)) (L2 := [(2, .int (x2 + 1)), (0, .ref 0), (1, .int x1), (3, .int x3), (4, .int x4), (5, .int x5)]) dX8_guess_102 rfl rfl (by decide) rfl ?_
      refine AR.iload_n (pc := 105) (j := 3) dX8_guess_105 rfl rfl ?_
      refine AR.bipush (pc := 106) (v := (-9)) dX8_guess_106 (by decide) ?_
      refine AR.icmp_ne (pc := 108) (tgt := 122) dX8_guess_108 (by decide) (fun c4 => ?_) (fun c4 => ?_)
      · replace h := ite_f c4 h
        refine AR.iload_n (pc := 122) (j := 3) dX8_guess_122 rfl rfl ?_
        exact AR.pick [1, 2, 0, 4, 5] rfl (A8_guess_123 k59 k81 x1 (x2 + 1) x4 x5 x3 hk59 hk81 (r2.2) r h)
      · replace h := ite_t c4 h
        refine AR.bipush (pc := 111) (v := 10) dX8_guess_111 (by decide) ?_
        refine AR.iload (pc := 113) (j := 4) dX8_guess_113 rfl ?_
        refine AR.imul (pc := 115) dX8_guess_115 ?_
        refine AR.iload (pc := 116) (j := 5) dX8_guess_116 rfl ?_
        refine AR.iadd (pc := 118) dX8_guess_118 ?_
        refine AR.goto (pc := 119) (tgt := 123) dX8_guess_119 (by decide) ?_
        exact AR.pick [1, 2, 0, 4, 5] rfl (A8_guess_123 k59 k81 x1 (x2 + 1) x4 x5 ((10 * x4) + x5) hk59 hk81 (r2.2) r h)
theorem A8_guess_81 {l : Launch} (k59 : Int32 × Int32 × Int32 × HS → Option (Int32 × HS)) (x1 : Int32) (x4 : Int32) (hk59 : ∀ (p : Int32 × Int32 × Int32 × HS) (r : Int32 × HS), k59 p = some r → AR l RX8 cX8_guess 6 (some .int) (wsU yX8_guess cX8_guess 6 (some .int)) rm8_guess SC 59 [(0, .ref 0), (1, .int x1), (2, .int (p.1)), (3, .int (p.2.1)), (4, .int (p.2.2.1))] [] p.2.2.2 (some (.int r.1), r.2)) (p : Int32 × Int32 × Int32 × HS) (r : Int32 × HS) (h : f8_guess_81 k59 x1 x4 p = some r) : AR l RX8 cX8_guess 6 (some .int) (wsU yX8_guess cX8_guess 6 (some .int)) rm8_guess SC 81 [(0, .ref 0), (1, .int x1), (2, .int (p.1)), (3, .int (p.2.1)), (4, .int x4), (5, .int (p.2.2.1))] [] p.2.2.2 (some (.int r.1), r.2) := by
  unfold f8_guess_81 at h
  exact wloop_run (body := fun k81 p => f8_guess_81_b k59 k81 x1 p.1 p.2.1 x4 p.2.2.1 p.2.2.2) (Q := fun p r => AR l RX8 cX8_guess 6 (some .int) (wsU yX8_guess cX8_guess 6 (some .int)) rm8_guess SC 81 [(0, .ref 0), (1, .int x1), (2, .int (p.1)), (3, .int (p.2.1)), (4, .int x4), (5, .int (p.2.2.1))] [] p.2.2.2 (some (.int r.1), r.2)) (fun k81 hk81 p r h => A8_guess_81_b k59 k81 x1 p.1 p.2.1 x4 p.2.2.1 hk59 hk81 p.2.2.2 r h) fuelN p r h
set_option maxHeartbeats 4000000 in
set_option maxRecDepth 100000 in
theorem A8_guess_59_b {l : Launch} (k59 : Int32 × Int32 × Int32 × HS → Option (Int32 × HS)) (x1 : Int32) (x2 : Int32) (x3 : Int32) (x4 : Int32) (hk59 : ∀ (p : Int32 × Int32 × Int32 × HS) (r : Int32 × HS), k59 p = some r → AR l RX8 cX8_guess 6 (some .int) (wsU yX8_guess cX8_guess 6 (some .int)) rm8_guess SC 59 [(0, .ref 0), (1, .int x1), (2, .int (p.1)), (3, .int (p.2.1)), (4, .int (p.2.2.1))] [] p.2.2.2 (some (.int r.1), r.2)) (σ : HS) (r : Int32 × HS) (h : f8_guess_59_b k59 x1 x2 x3 x4 σ = some r) : AR l RX8 cX8_guess 6 (some .int) (wsU yX8_guess cX8_guess 6 (some .int)) rm8_guess SC 59 [(0, .ref 0), (1, .int x1), (2, .int x2), (3, .int x3), (4, .int x4)] [] σ (some (.int r.1), r.2) := by
  unfold f8_guess_59_b at h
  refine AR.iload (pc := 59) (j := 4) dX8_guess_59 rfl ?_
  refine AR.aload_n (pc := 61) (j := 0) dX8_guess_61 rfl rfl ?_
  refine AR.getf (pc := 62) (ci := 8) (j := 9) (d := 40 + 2) (v := .ref 40) (T := TX8) dX8_guess_62 rfl rfl rfl (by decide) (fun w hw => wsU_in (uw_X8 w hw)) (wsU_in fl_X8_88) rfl ?_
  refine AR.getfN (pc := 65) (ci := 2) (j := 3) (d := 0) (v := .int (σ.1 40 3)) (T := TX2) dX8_guess_65 rfl rfl rfl (by decide) (fun w hw => wsU_in (uw_X2 w hw)) fn_X8_274 rfl ?_
  refine AR.icmp_gt (pc := 68) (tgt := 136) dX8_guess_68 (by decide) (fun c1 => ?_) (fun c1 => ?_)
  · replace h := ite_t c1 h
    exact AR.pick [1, 2, 3] rfl (A8_guess_136 x1 x2 x3 σ r h)
  · replace h := ite_f c1 h
    refine AR.iload (pc := 71) (j := 4) dX8_guess_71 rfl ?_
    refine AR.bipush (pc := 73) (v := 6) dX8_guess_73 (by decide) ?_
    refine AR.icmp_gt (pc := 75) (tgt := 136) dX8_guess_75 (by decide) (fun c2 => ?_) (fun c2 => ?_)
    · replace h := ite_t c2 h
      exact AR.pick [1, 2, 3] rfl (A8_guess_136 x1 x2 x3 σ r h)
    · replace h := ite_f c2 h
      refine AR.iconst (pc := 78) (v := 0) dX8_guess_78 (by decide) ?_
      refine AR.istore (pc := 79) (L2 := [(5, .int 0), (0, .ref 0), (1, .int x1), (2, .int x2), (3, .int x3), (4, .int x4)]) dX8_guess_79 (by decide) rfl ?_
      exact AR.pick [1, 2, 3, 4, 5, 0] rfl (A8_guess_81 k59 x1 x4 hk59 (x2, x3, 0, σ) r h)
theorem A8_guess_59 {l : Launch} (x1 : Int32) (p : Int32 × Int32 × Int32 × HS) (r : Int32 × HS) (h : f8_guess_59 x1 p = some r) : AR l RX8 cX8_guess 6 (some .int) (wsU yX8_guess cX8_guess 6 (some .int)) rm8_guess SC 59 [(0, .ref 0), (1, .int x1), (2, .int (p.1)), (3, .int (p.2.1)), (4, .int (p.2.2.1))] [] p.2.2.2 (some (.int r.1), r.2) := by
  unfold f8_guess_59 at h
  exact wloop_run (body := fun k59 p => f8_guess_59_b k59 x1 p.1 p.2.1 p.2.2.1 p.2.2.2) (Q := fun p r => AR l RX8 cX8_guess 6 (some .int) (wsU yX8_guess cX8_guess 6 (some .int)) rm8_guess SC 59 [(0, .ref 0), (1, .int x1), (2, .int (p.1)), (3, .int (p.2.1)), (4, .int (p.2.2.1))] [] p.2.2.2 (some (.int r.1), r.2)) (fun k59 hk59 p r h => A8_guess_59_b k59 x1 p.1 p.2.1 p.2.2.1 hk59 p.2.2.2 r h) fuelN p r h
set_option maxHeartbeats 4000000 in
set_option maxRecDepth 100000 in
theorem A8_guess_12 {l : Launch} (x1 : Int32) (σ : HS) (r : Int32 × HS) (h : f8_guess_12 x1 σ = some r) : AR l RX8 cX8_guess 6 (some .int) (wsU yX8_guess cX8_guess 6 (some .int)) rm8_guess SC 12 [(0, .ref 0), (1, .int x1)] [] σ (some (.int r.1), r.2) := by
  unfold f8_guess_12 at h
  refine AR.aload_n (pc := 12) (j := 0) dX8_guess_12 rfl rfl ?_
  refine AR.getf (pc := 13) (ci := 8) (j := 1) (d := 5 + 2) (v := .ref 5) (T := TX8) dX8_guess_13 rfl rfl rfl (by decide) (fun w hw => wsU_in (uw_X8 w hw)) (wsU_in fl_X8_32) rfl ?_
  refine AR.getfN (pc := 16) (ci := 4) (j := 0) (d := 0) (v := .int (σ.1 5 0)) (T := TX4) dX8_guess_16 rfl rfl rfl (by decide) (fun w hw => wsU_in (uw_X4 w hw)) fn_X8_132 rfl ?_
  refine AR.if_ne (pc := 19) (tgt := 25) dX8_guess_19 (by decide) (fun c1 => ?_) (fun c1 => ?_)
  · replace h := ite_f c1 h
    refine AR.aload_n (pc := 25) (j := 0) dX8_guess_25 rfl rfl ?_
    refine AR.getf (pc := 26) (ci := 8) (j := 6) (d := 30 + 2) (v := .ref 30) (T := TX8) dX8_guess_26 rfl rfl rfl (by decide) (fun w hw => wsU_in (uw_X8 w hw)) (wsU_in fl_X8_76) rfl ?_
    refine AR.aload_n (pc := 29) (j := 0) dX8_guess_29 rfl rfl ?_
    refine AR.getf (pc := 30) (ci := 8) (j := 3) (d := 20 + 2) (v := .ref 20) (T := TX8) dX8_guess_30 rfl rfl rfl (by decide) (fun w hw => wsU_in (uw_X8 w hw)) (wsU_in fl_X8_54) rfl ?_
    obtain ⟨r2, h2, h⟩ := bd_some h
    refine AR.callVN (pc := 33) (As := [.ref 20]) (st := []) (ci := 0) dX8_guess_33 ⟨cd_X0_follow, im_X0_follow, se_X0_follow, ini_X0⟩ mn_X8_231 (A0_follow σ _ h2) ⟨rfl, pd_X0_follow⟩ ⟨Nat.le_of_ble_eq_true rfl, Nat.le_of_ble_eq_true rfl⟩ ⟨rfl, rfl⟩ rfl rfl rfl (Nat.le_of_ble_eq_true rfl) ?_
    refine AR.aload_n (pc := 36) (j := 0) dX8_guess_36 rfl rfl ?_
    refine AR.getf (pc := 37) (ci := 8) (j := 9) (d := 40 + 2) (v := .ref 40) (T := TX8) dX8_guess_37 rfl rfl rfl (by decide) (fun w hw => wsU_in (uw_X8 w hw)) (wsU_in fl_X8_88) rfl ?_
    refine AR.aload_n (pc := 40) (j := 0) dX8_guess_40 rfl rfl ?_
    refine AR.getf (pc := 41) (ci := 8) (j := 6) (d := 30 + 2) (v := .ref 30) (T := TX8) dX8_guess_41 rfl rfl rfl (by decide) (fun w hw => wsU_in (uw_X8 w hw)) (wsU_in fl_X8_76) rfl ?_
    refine AR.aload_n (pc := 44) (j := 0) dX8_guess_44 rfl rfl ?_
    refine AR.getf (pc := 45) (ci := 8) (j := 8) (d := 37 + 2) (v := .ref 37) (T := TX8) dX8_guess_45 rfl rfl rfl (by decide) (fun w hw => wsU_in (uw_X8 w hw)) (wsU_in fl_X8_82) rfl ?_
    obtain ⟨r3, h3, h⟩ := bd_some h
    refine AR.callVN (pc := 48) (As := [.ref 30, .ref 37]) (st := []) (ci := 2) dX8_guess_48 ⟨cd_X2_compare, im_X2_compare, se_X2_compare, ini_X2⟩ mn_X8_281 (A2_compare r2 _ h3) ⟨rfl, pd_X2_compare⟩ ⟨Nat.le_of_ble_eq_true rfl, Nat.le_of_ble_eq_true rfl⟩ ⟨rfl, rfl⟩ rfl rfl rfl (Nat.le_of_ble_eq_true rfl) ?_
    refine AR.iconst (pc := 51) (v := 0) dX8_guess_51 (by decide) ?_
    refine AR.istore_n (pc := 52) (L2 := [(2, .int 0), (0, .ref 0), (1, .int x1)]) dX8_guess_52 rfl (by decide) rfl ?_
    refine AR.bipush (pc := 53) (v := (-9)) dX8_guess_53 (by decide) ?_
    refine AR.istore_n (pc := 55) (L2 := [(3, .int (-9)), (2, .int 0), (0, .ref 0), (1, .int x1)]) dX8_guess_55 rfl (by decide) rfl ?_
    refine AR.iconst (pc := 56) (v := 0) dX8_guess_56 (by decide) ?_
    refine AR.istore (pc := 57) (L2 := [(4, .int 0), (3, .int (-9)), (2, .int 0), (0, .ref 0), (1, .int x1)]) dX8_guess_57 (by decide) rfl ?_
    exact AR.pick [3, 4, 2, 1, 0] rfl (A8_guess_59 x1 (0, (-9), 0, r3) r h)
  · replace h := ite_t c1 h
    refine AR.bipush (pc := 22) (v := (-3)) dX8_guess_22 (by decide) ?_
    exact AR.iret (pc := 24) rfl dX8_guess_24 (hrI (Option.some.inj h))
set_option maxHeartbeats 4000000 in
set_option maxRecDepth 100000 in
theorem A8_guess {l : Launch} (x1 : Int32) (σ : HS) (r : Int32 × HS) (h : f8_guess x1 σ = some r) : MA l yX8_guess (wsU yX8_guess cX8_guess 6 (some .int)) rm8_guess SC [.ref 0, .int x1] σ (some (.int r.1), r.2) := by
  refine MA.of (L := [(0, .ref 0), (1, .int x1)]) pn_X8_guess rfl (fun _ => Nat.le_of_ble_eq_true rfl) (fun _ => rfl) ?_
  unfold f8_guess at h
  refine AR.iload_n (pc := 0) (j := 1) dX8_guess_0 rfl rfl ?_
  refine AR.if_eq (pc := 1) (tgt := 12) dX8_guess_1 (by decide) (fun c1 => ?_) (fun c1 => ?_)
  · replace h := ite_t c1 h
    exact AR.pick [0, 1] rfl (A8_guess_12 x1 σ r h)
  · replace h := ite_f c1 h
    refine AR.iload_n (pc := 4) (j := 1) dX8_guess_4 rfl rfl ?_
    refine AR.iconst (pc := 5) (v := 1) dX8_guess_5 (by decide) ?_
    refine AR.icmp_eq (pc := 6) (tgt := 12) dX8_guess_6 (by decide) (fun c2 => ?_) (fun c2 => ?_)
    · replace h := ite_t c2 h
      exact AR.pick [0, 1] rfl (A8_guess_12 x1 σ r h)
    · replace h := ite_f c2 h
      refine AR.bipush (pc := 9) (v := (-2)) dX8_guess_9 (by decide) ?_
      exact AR.iret (pc := 11) rfl dX8_guess_11 (hrI (Option.some.inj h))
noncomputable def f8_worthUnder (x1 : Int32) (σ : HS) : Option (Int32 × HS) :=
  bd (f0_follow σ) fun r1 =>
  bd (f5_makeForFreeDay (uI r1 30 2 x1)) fun r2 =>
  bd (f1_goFreely 30 r2) fun r3 =>
  bd (f8_worthToAll (r3.2 37 9) r3) fun r4 =>
  some (r4.1, r4.2)
set_option maxHeartbeats 4000000 in
set_option maxRecDepth 100000 in
theorem A8_worthUnder {l : Launch} (x1 : Int32) (σ : HS) (r : Int32 × HS) (h : f8_worthUnder x1 σ = some r) : MA l yX8_worthUnder (wsU yX8_worthUnder cX8_worthUnder 2 (some .int)) rm8_worthUnder SC [.ref 0, .int x1] σ (some (.int r.1), r.2) := by
  refine MA.of (L := [(0, .ref 0), (1, .int x1)]) pn_X8_worthUnder rfl (fun _ => Nat.le_of_ble_eq_true rfl) (fun _ => rfl) ?_
  unfold f8_worthUnder at h
  refine AR.aload_n (pc := 0) (j := 0) dX8_worthUnder_0 rfl rfl ?_
  refine AR.getf (pc := 1) (ci := 8) (j := 6) (d := 30 + 2) (v := .ref 30) (T := TX8) dX8_worthUnder_1 rfl rfl rfl (by decide) (fun w hw => wsU_in (uw_X8 w hw)) (wsU_in fl_X8_76) rfl ?_
  refine AR.aload_n (pc := 4) (j := 0) dX8_worthUnder_4 rfl rfl ?_
  refine AR.getf (pc := 5) (ci := 8) (j := 3) (d := 20 + 2) (v := .ref 20) (T := TX8) dX8_worthUnder_5 rfl rfl rfl (by decide) (fun w hw => wsU_in (uw_X8 w hw)) (wsU_in fl_X8_54) rfl ?_
  obtain ⟨r1, h1, h⟩ := bd_some h
  refine AR.callVN (pc := 8) (As := [.ref 20]) (st := []) (ci := 0) dX8_worthUnder_8 ⟨cd_X0_follow, im_X0_follow, se_X0_follow, ini_X0⟩ mn_X8_231 (A0_follow σ _ h1) ⟨rfl, pd_X0_follow⟩ ⟨Nat.le_of_ble_eq_true rfl, Nat.le_of_ble_eq_true rfl⟩ ⟨rfl, rfl⟩ rfl rfl rfl (Nat.le_of_ble_eq_true rfl) ?_
  refine AR.aload_n (pc := 11) (j := 0) dX8_worthUnder_11 rfl rfl ?_
  refine AR.getf (pc := 12) (ci := 8) (j := 6) (d := 30 + 2) (v := .ref 30) (T := TX8) dX8_worthUnder_12 rfl rfl rfl (by decide) (fun w hw => wsU_in (uw_X8 w hw)) (wsU_in fl_X8_76) rfl ?_
  refine AR.iload_n (pc := 15) (j := 1) dX8_worthUnder_15 rfl rfl ?_
  refine AR.putIN (pc := 16) (ci := 0) (j := 2) (T := TX0) (ty0 := tyX0) (ty := .int) dX8_worthUnder_16 rfl rfl rfl (by decide) (fun w hw => wsU_in (uw_X0 w hw)) tyX0_ok nmX0 fn_X8_160 rfl (by decide +kernel) rfl rfl ?_
  refine AR.aload_n (pc := 19) (j := 0) dX8_worthUnder_19 rfl rfl ?_
  refine AR.getf (pc := 20) (ci := 8) (j := 7) (d := 32 + 2) (v := .ref 32) (T := TX8) dX8_worthUnder_20 rfl rfl rfl (by decide) (fun w hw => wsU_in (uw_X8 w hw)) (wsU_in fl_X8_79) rfl ?_
  obtain ⟨r2, h2, h⟩ := bd_some h
  refine AR.callVN (pc := 23) (As := []) (st := []) (ci := 5) dX8_worthUnder_23 ⟨cd_X5_makeForFreeDay, im_X5_makeForFreeDay, se_X5_makeForFreeDay, ini_X5⟩ mn_X8_290 (A5_makeForFreeDay (uI r1 30 2 x1) _ h2) ⟨rfl, pd_X5_makeForFreeDay⟩ ⟨Nat.le_of_ble_eq_true rfl, Nat.le_of_ble_eq_true rfl⟩ ⟨rfl, rfl⟩ rfl rfl rfl (Nat.le_of_ble_eq_true rfl) ?_
  refine AR.aload_n (pc := 26) (j := 0) dX8_worthUnder_26 rfl rfl ?_
  refine AR.getf (pc := 27) (ci := 8) (j := 8) (d := 37 + 2) (v := .ref 37) (T := TX8) dX8_worthUnder_27 rfl rfl rfl (by decide) (fun w hw => wsU_in (uw_X8 w hw)) (wsU_in fl_X8_82) rfl ?_
  obtain ⟨r3, h3, h⟩ := bd_some h
  refine AR.callVN (pc := 30) (As := []) (st := []) (ci := 1) dX8_worthUnder_30 ⟨cd_X1_goFreely, im_X1_goFreely, se_X1_goFreely, ini_X1⟩ mn_X8_222 (A1_goFreely 30 grp30 r2 _ h3) ⟨rfl, pd_X1_goFreely⟩ ⟨Nat.le_of_ble_eq_true rfl, Nat.le_of_ble_eq_true rfl⟩ ⟨rfl, rfl⟩ rfl rfl rfl (Nat.le_of_ble_eq_true rfl) ?_
  refine AR.aload_n (pc := 33) (j := 0) dX8_worthUnder_33 rfl rfl ?_
  refine AR.getf (pc := 34) (ci := 8) (j := 8) (d := 37 + 2) (v := .ref 37) (T := TX8) dX8_worthUnder_34 rfl rfl rfl (by decide) (fun w hw => wsU_in (uw_X8 w hw)) (wsU_in fl_X8_82) rfl ?_
  refine AR.getfN (pc := 37) (ci := 1) (j := 9) (d := 1) (v := .long (r3.2 37 9)) (T := TX1) dX8_worthUnder_37 rfl rfl rfl (by decide) (fun w hw => wsU_in (uw_X1 w hw)) fn_X8_185 rfl ?_
  obtain ⟨r4, h4, h⟩ := bd_some h
  refine AR.callS (pc := 40) (As := [.long (r3.2 37 9)]) (st := []) dX8_worthUnder_40 ⟨cd_X8_worthToAll, sm_X8_worthToAll, ini_X8⟩ ml_X8_237 (A8_worthToAll (r3.2 37 9) r3 _ h4) ⟨rfl, pd_X8_worthToAll⟩ ⟨Nat.le_of_ble_eq_true rfl, Nat.le_of_ble_eq_true rfl⟩ ⟨rfl, rfl⟩ rfl (Nat.le_of_ble_eq_true rfl) ?_
  exact AR.iret (pc := 43) rfl dX8_worthUnder_43 (hrI (Option.some.inj h))
noncomputable def f8_byLaw_73 (k47 : Int32 × Int32 × Int32 × HS → Option (Int32 × HS)) (x2 : Int32) (x3 : Int32) (x4 : Int32) (σ : HS) : Option (Int32 × HS) :=
  k47 (x2, x3, (x4 + 1), σ)
noncomputable def f8_byLaw_47_b (k47 : Int32 × Int32 × Int32 × HS → Option (Int32 × HS)) (x2 : Int32) (x3 : Int32) (x4 : Int32) (σ : HS) : Option (Int32 × HS) :=
  if (4 : Int32) ≤ x4 then
    some (x2, σ)
  else
    bd (f8_worthUnder x4 σ) fun r2 =>
    if (r2.1 : Int32) ≤ x3 then
      f8_byLaw_73 k47 x2 x3 x4 (r2.2)
    else
      f8_byLaw_73 k47 x4 (r2.1) x4 (r2.2)
noncomputable def f8_byLaw_47 (p : Int32 × Int32 × Int32 × HS) : Option (Int32 × HS) :=
  wloop (fun k47 p => f8_byLaw_47_b k47 p.1 p.2.1 p.2.2.1 p.2.2.2) fuelN p
noncomputable def f8_byLaw (x1 : Int32) (σ : HS) : Option (Int32 × HS) :=
  if (x1 : Int32) < (-1) then
    some ((-2), σ)
  else
    if (x1 : Int32) < 4 then
      if ((σ.1 5 0) : Int32) = 0 then
        some ((-3), σ)
      else
        if (x1 : Int32) < 0 then
          bd (f8_worthUnder 0 σ) fun r5 =>
          f8_byLaw_47 (0, r5.1, 1, r5.2)
        else
          bd (f8_worthUnder x1 σ) fun r6 =>
          some (r6.1, r6.2)
    else
      some ((-2), σ)
set_option maxHeartbeats 4000000 in
set_option maxRecDepth 100000 in
theorem A8_byLaw_73 {l : Launch} (k47 : Int32 × Int32 × Int32 × HS → Option (Int32 × HS)) (x2 : Int32) (x3 : Int32) (x4 : Int32) (hk47 : ∀ (p : Int32 × Int32 × Int32 × HS) (r : Int32 × HS), k47 p = some r → AR l RX8 cX8_byLaw 6 (some .int) (wsU yX8_byLaw cX8_byLaw 6 (some .int)) rm8_byLaw SC 47 [(0, .ref 0), (2, .int (p.1)), (3, .int (p.2.1)), (4, .int (p.2.2.1))] [] p.2.2.2 (some (.int r.1), r.2)) (σ : HS) (r : Int32 × HS) (h : f8_byLaw_73 k47 x2 x3 x4 σ = some r) : AR l RX8 cX8_byLaw 6 (some .int) (wsU yX8_byLaw cX8_byLaw 6 (some .int)) rm8_byLaw SC 73 [(0, .ref 0), (2, .int x2), (3, .int x3), (4, .int x4)] [] σ (some (.int r.1), r.2) := by
  unfold f8_byLaw_73 at h
  refine AR.iinc (pc := 73) (j := 3) (v := (x4 + 1)) (L2 := [(4, .int (x4 + 1)), (0, .ref 0), (2, .int x2), (3, .int x3)]) dX8_byLaw_73 rfl rfl (by decide) rfl ?_
  refine AR.goto (pc := 76) (tgt := 47) dX8_byLaw_76 (by decide) ?_
  exact AR.pick [1, 2, 3, 0] rfl (hk47 (x2, x3, (x4 + 1), σ) r h)
set_option maxHeartbeats 4000000 in
set_option maxRecDepth 100000 in
theorem A8_byLaw_47_b {l : Launch} (k47 : Int32 × Int32 × Int32 × HS → Option (Int32 × HS)) (x2 : Int32) (x3 : Int32) (x4 : Int32) (hk47 : ∀ (p : Int32 × Int32 × Int32 × HS) (r : Int32 × HS), k47 p = some r → AR l RX8 cX8_byLaw 6 (some .int) (wsU yX8_byLaw cX8_byLaw 6 (some .int)) rm8_byLaw SC 47 [(0, .ref 0), (2, .int (p.1)), (3, .int (p.2.1)), (4, .int (p.2.2.1))] [] p.2.2.2 (some (.int r.1), r.2)) (σ : HS) (r : Int32 × HS) (h : f8_byLaw_47_b k47 x2 x3 x4 σ = some r) : AR l RX8 cX8_byLaw 6 (some .int) (wsU yX8_byLaw cX8_byLaw 6 (some .int)) rm8_byLaw SC 47 [(0, .ref 0), (2, .int x2), (3, .int x3), (4, .int x4)] [] σ (some (.int r.1), r.2) := by
  unfold f8_byLaw_47_b at h
  refine AR.iload (pc := 47) (j := 3) dX8_byLaw_47 rfl ?_
  refine AR.iconst (pc := 49) (v := 4) dX8_byLaw_49 (by decide) ?_
  refine AR.icmp_ge (pc := 50) (tgt := 79) dX8_byLaw_50 (by decide) (fun c1 => ?_) (fun c1 => ?_)
  · replace h := ite_t c1 h
    refine AR.iload_n (pc := 79) (j := 1) dX8_byLaw_79 rfl rfl ?_
    exact AR.iret (pc := 80) rfl dX8_byLaw_80 (hrI (Option.some.inj h))
  · replace h := ite_f c1 h
    refine AR.aload_n (pc := 53) (j := 0) dX8_byLaw_53 rfl rfl ?_
    refine AR.iload (pc := 54) (j := 3) dX8_byLaw_54 rfl ?_
    obtain ⟨r2, h2, h⟩ := bd_some h
    refine AR.callV (pc := 56) (As := [.int x4]) (st := []) (ci := 8) dX8_byLaw_56 ⟨cd_X8_worthUnder, im_X8_worthUnder, se_X8_worthUnder, ini_X8⟩ ml_X8_287 (A8_worthUnder x4 σ _ h2) ⟨rfl, pd_X8_worthUnder⟩ ⟨Nat.le_of_ble_eq_true rfl, Nat.le_of_ble_eq_true rfl⟩ ⟨rfl, rfl⟩ rfl rfl rfl (Nat.le_of_ble_eq_true rfl) ?_
    refine AR.istore (pc := 59) (L2 := [(5, .int (r2.1)), (0, .ref 0), (2, .int x2), (3, .int x3), (4, .int x4)]) dX8_byLaw_59 (by decide) rfl ?_
    refine AR.iload (pc := 61) (j := 0) dX8_byLaw_61 rfl ?_
    refine AR.iload_n (pc := 63) (j := 3) dX8_byLaw_63 rfl rfl ?_
    refine AR.icmp_le (pc := 64) (tgt := 73) dX8_byLaw_64 (by decide) (fun c3 => ?_) (fun c3 => ?_)
    · replace h := ite_t c3 h
      exact AR.pick [1, 2, 3, 4] rfl (A8_byLaw_73 k47 x2 x3 x4 hk47 (r2.2) r h)
    · replace h := ite_f c3 h
      refine AR.iload (pc := 67) (j := 0) dX8_byLaw_67 rfl ?_
      refine AR.istore_n (pc := 69) (L2 := [(3, .int (r2.1)), (5, .int (r2.1)), (0, .ref 0), (2, .int x2), (4, .int x4)]) dX8_byLaw_69 rfl (by decide) rfl ?_
      refine AR.iload (pc := 70) (j := 4) dX8_byLaw_70 rfl ?_
      refine AR.istore_n (pc := 72) (L2 := [(2, .int x4), (3, .int (r2.1)), (5, .int (r2.1)), (0, .ref 0), (4, .int x4)]) dX8_byLaw_72 rfl (by decide) rfl ?_
      exact AR.pick [3, 0, 1, 4] rfl (A8_byLaw_73 k47 x4 (r2.1) x4 hk47 (r2.2) r h)
theorem A8_byLaw_47 {l : Launch} (p : Int32 × Int32 × Int32 × HS) (r : Int32 × HS) (h : f8_byLaw_47 p = some r) : AR l RX8 cX8_byLaw 6 (some .int) (wsU yX8_byLaw cX8_byLaw 6 (some .int)) rm8_byLaw SC 47 [(0, .ref 0), (2, .int (p.1)), (3, .int (p.2.1)), (4, .int (p.2.2.1))] [] p.2.2.2 (some (.int r.1), r.2) := by
  unfold f8_byLaw_47 at h
  exact wloop_run (body := fun k47 p => f8_byLaw_47_b k47 p.1 p.2.1 p.2.2.1 p.2.2.2) (Q := fun p r => AR l RX8 cX8_byLaw 6 (some .int) (wsU yX8_byLaw cX8_byLaw 6 (some .int)) rm8_byLaw SC 47 [(0, .ref 0), (2, .int (p.1)), (3, .int (p.2.1)), (4, .int (p.2.2.1))] [] p.2.2.2 (some (.int r.1), r.2)) (fun k47 hk47 p r h => A8_byLaw_47_b k47 p.1 p.2.1 p.2.2.1 hk47 p.2.2.2 r h) fuelN p r h
set_option maxHeartbeats 4000000 in
set_option maxRecDepth 100000 in
theorem A8_byLaw {l : Launch} (x1 : Int32) (σ : HS) (r : Int32 × HS) (h : f8_byLaw x1 σ = some r) : MA l yX8_byLaw (wsU yX8_byLaw cX8_byLaw 6 (some .int)) rm8_byLaw SC [.ref 0, .int x1] σ (some (.int r.1), r.2) := by
  refine MA.of (L := [(0, .ref 0), (1, .int x1)]) pn_X8_byLaw rfl (fun _ => Nat.le_of_ble_eq_true rfl) (fun _ => rfl) ?_
  unfold f8_byLaw at h
  refine AR.iload_n (pc := 0) (j := 1) dX8_byLaw_0 rfl rfl ?_
  refine AR.iconst (pc := 1) (v := (-1)) dX8_byLaw_1 (by decide) ?_
  refine AR.icmp_lt (pc := 2) (tgt := 10) dX8_byLaw_2 (by decide) (fun c1 => ?_) (fun c1 => ?_)
  · replace h := ite_t c1 h
    refine AR.bipush (pc := 10) (v := (-2)) dX8_byLaw_10 (by decide) ?_
    exact AR.iret (pc := 12) rfl dX8_byLaw_12 (hrI (Option.some.inj h))
  · replace h := ite_f c1 h
    refine AR.iload_n (pc := 5) (j := 1) dX8_byLaw_5 rfl rfl ?_
    refine AR.iconst (pc := 6) (v := 4) dX8_byLaw_6 (by decide) ?_
    refine AR.icmp_lt (pc := 7) (tgt := 13) dX8_byLaw_7 (by decide) (fun c2 => ?_) (fun c2 => ?_)
    · replace h := ite_t c2 h
      refine AR.aload_n (pc := 13) (j := 0) dX8_byLaw_13 rfl rfl ?_
      refine AR.getf (pc := 14) (ci := 8) (j := 1) (d := 5 + 2) (v := .ref 5) (T := TX8) dX8_byLaw_14 rfl rfl rfl (by decide) (fun w hw => wsU_in (uw_X8 w hw)) (wsU_in fl_X8_32) rfl ?_
      refine AR.getfN (pc := 17) (ci := 4) (j := 0) (d := 0) (v := .int (σ.1 5 0)) (T := TX4) dX8_byLaw_17 rfl rfl rfl (by decide) (fun w hw => wsU_in (uw_X4 w hw)) fn_X8_132 rfl ?_
      refine AR.if_ne (pc := 20) (tgt := 26) dX8_byLaw_20 (by decide) (fun c3 => ?_) (fun c3 => ?_)
      · replace h := ite_f c3 h
        refine AR.iload_n (pc := 26) (j := 1) dX8_byLaw_26 rfl rfl ?_
        refine AR.if_lt (pc := 27) (tgt := 36) dX8_byLaw_27 (by decide) (fun c4 => ?_) (fun c4 => ?_)
        · replace h := ite_t c4 h
          refine AR.iconst (pc := 36) (v := 0) dX8_byLaw_36 (by decide) ?_
          refine AR.istore_n (pc := 37) (L2 := [(2, .int 0), (0, .ref 0), (1, .int x1)]) dX8_byLaw_37 rfl (by decide) rfl ?_
          refine AR.aload_n (pc := 38) (j := 1) dX8_byLaw_38 rfl rfl ?_
          refine AR.iconst (pc := 39) (v := 0) dX8_byLaw_39 (by decide) ?_
          obtain ⟨r5, h5, h⟩ := bd_some h
          refine AR.callV (pc := 40) (As := [.int 0]) (st := []) (ci := 8) dX8_byLaw_40 ⟨cd_X8_worthUnder, im_X8_worthUnder, se_X8_worthUnder, ini_X8⟩ ml_X8_287 (A8_worthUnder 0 σ _ h5) ⟨rfl, pd_X8_worthUnder⟩ ⟨Nat.le_of_ble_eq_true rfl, Nat.le_of_ble_eq_true rfl⟩ ⟨rfl, rfl⟩ rfl rfl rfl (Nat.le_of_ble_eq_true rfl) ?_
          refine AR.istore_n (pc := 43) (L2 := [(3, .int (r5.1)), (2, .int 0), (0, .ref 0), (1, .int x1)]) dX8_byLaw_43 rfl (by decide) rfl ?_
          refine AR.iconst (pc := 44) (v := 1) dX8_byLaw_44 (by decide) ?_
          refine AR.istore (pc := 45) (L2 := [(4, .int 1), (3, .int (r5.1)), (2, .int 0), (0, .ref 0), (1, .int x1)]) dX8_byLaw_45 (by decide) rfl ?_
          exact AR.pick [3, 2, 1, 0] rfl (A8_byLaw_47 (0, r5.1, 1, r5.2) r h)
        · replace h := ite_f c4 h
          refine AR.aload_n (pc := 30) (j := 0) dX8_byLaw_30 rfl rfl ?_
          refine AR.iload_n (pc := 31) (j := 1) dX8_byLaw_31 rfl rfl ?_
          obtain ⟨r6, h6, h⟩ := bd_some h
          refine AR.callV (pc := 32) (As := [.int x1]) (st := []) (ci := 8) dX8_byLaw_32 ⟨cd_X8_worthUnder, im_X8_worthUnder, se_X8_worthUnder, ini_X8⟩ ml_X8_287 (A8_worthUnder x1 σ _ h6) ⟨rfl, pd_X8_worthUnder⟩ ⟨Nat.le_of_ble_eq_true rfl, Nat.le_of_ble_eq_true rfl⟩ ⟨rfl, rfl⟩ rfl rfl rfl (Nat.le_of_ble_eq_true rfl) ?_
          exact AR.iret (pc := 35) rfl dX8_byLaw_35 (hrI (Option.some.inj h))
      · replace h := ite_t c3 h
        refine AR.bipush (pc := 23) (v := (-3)) dX8_byLaw_23 (by decide) ?_
        exact AR.iret (pc := 25) rfl dX8_byLaw_25 (hrI (Option.some.inj h))
    · replace h := ite_f c2 h
      refine AR.bipush (pc := 10) (v := (-2)) dX8_byLaw_10 (by decide) ?_
      exact AR.iret (pc := 12) rfl dX8_byLaw_12 (hrI (Option.some.inj h))
noncomputable def f8_commonPart_7_b (k7 : Int32 × Int32 × Int32 × HS → Option (Int32 × HS)) (x2 : Int32) (x3 : Int32) (x4 : Int32) (σ : HS) : Option (Int32 × HS) :=
  if (99 : Int32) ≤ x4 then
    some (x2, σ)
  else
    if (x3 : Int32) ≤ 0 then
      some (x2, σ)
    else
      if (x3 : Int32) = 0 then none else
      k7 (x3, (x2 - x2 / x3 * x3), (x4 + 1), σ)
noncomputable def f8_commonPart_7 (p : Int32 × Int32 × Int32 × HS) : Option (Int32 × HS) :=
  wloop (fun k7 p => f8_commonPart_7_b k7 p.1 p.2.1 p.2.2.1 p.2.2.2) fuelN p
noncomputable def f8_commonPart (x0 : Int32) (x1 : Int32) (σ : HS) : Option (Int32 × HS) :=
  f8_commonPart_7 (x0, x1, 0, σ)
set_option maxHeartbeats 4000000 in
set_option maxRecDepth 100000 in
theorem A8_commonPart_7_b {l : Launch} (k7 : Int32 × Int32 × Int32 × HS → Option (Int32 × HS)) (x2 : Int32) (x3 : Int32) (x4 : Int32) (hk7 : ∀ (p : Int32 × Int32 × Int32 × HS) (r : Int32 × HS), k7 p = some r → AR l RX8 cX8_commonPart 6 (some .int) (wsU yX8_commonPart cX8_commonPart 6 (some .int)) rm8_commonPart SC 7 [(2, .int (p.1)), (3, .int (p.2.1)), (4, .int (p.2.2.1))] [] p.2.2.2 (some (.int r.1), r.2)) (σ : HS) (r : Int32 × HS) (h : f8_commonPart_7_b k7 x2 x3 x4 σ = some r) : AR l RX8 cX8_commonPart 6 (some .int) (wsU yX8_commonPart cX8_commonPart 6 (some .int)) rm8_commonPart SC 7 [(2, .int x2), (3, .int x3), (4, .int x4)] [] σ (some (.int r.1), r.2) := by
  unfold f8_commonPart_7_b at h
  refine AR.iload (pc := 7) (j := 2) dX8_commonPart_7 rfl ?_
  refine AR.bipush (pc := 9) (v := 99) dX8_commonPart_9 (by decide) ?_
  refine AR.icmp_ge (pc := 11) (tgt := 34) dX8_commonPart_11 (by decide) (fun c1 => ?_) (fun c1 => ?_)
  · replace h := ite_t c1 h
    refine AR.iload_n (pc := 34) (j := 0) dX8_commonPart_34 rfl rfl ?_
    exact AR.iret (pc := 35) rfl dX8_commonPart_35 (hrI (Option.some.inj h))
  · replace h := ite_f c1 h
    refine AR.iload_n (pc := 14) (j := 1) dX8_commonPart_14 rfl rfl ?_
    refine AR.if_le (pc := 15) (tgt := 34) dX8_commonPart_15 (by decide) (fun c2 => ?_) (fun c2 => ?_)
    · replace h := ite_t c2 h
      refine AR.iload_n (pc := 34) (j := 0) dX8_commonPart_34 rfl rfl ?_
      exact AR.iret (pc := 35) rfl dX8_commonPart_35 (hrI (Option.some.inj h))
    · replace h := ite_f c2 h
      refine AR.iload_n (pc := 18) (j := 0) dX8_commonPart_18 rfl rfl ?_
      refine AR.iload_n (pc := 19) (j := 1) dX8_commonPart_19 rfl rfl ?_
      obtain ⟨c3, h⟩ := gn_some h
      refine AR.irem (pc := 20) dX8_commonPart_20 c3 ?_
      refine AR.istore (pc := 21) (L2 := [(5, .int (x2 - x2 / x3 * x3)), (2, .int x2), (3, .int x3), (4, .int x4)]) dX8_commonPart_21 (by decide) rfl ?_
      refine AR.iload_n (pc := 23) (j := 2) dX8_commonPart_23 rfl rfl ?_
      refine AR.istore_n (pc := 24) (L2 := [(2, .int x3), (5, .int (x2 - x2 / x3 * x3)), (3, .int x3), (4, .int x4)]) dX8_commonPart_24 rfl (by decide) rfl ?_
      refine AR.iload (pc := 25) (j := 1) dX8_commonPart_25 rfl ?_
      refine AR.istore_n (pc := 27) (L2 := [(3, .int (x2 - x2 / x3 * x3)), (2, .int x3), (5, .int (x2 - x2 / x3 * x3)), (4, .int x4)]) dX8_commonPart_27 rfl (by decide) rfl ?_
      refine AR.iinc (pc := 28) (j := 3) (v := (x4 + 1)) (L2 := [(4, .int (x4 + 1)), (3, .int (x2 - x2 / x3 * x3)), (2, .int x3), (5, .int (x2 - x2 / x3 * x3))]) dX8_commonPart_28 rfl rfl (by decide) rfl ?_
      refine AR.goto (pc := 31) (tgt := 7) dX8_commonPart_31 (by decide) ?_
      exact AR.pick [2, 1, 0] rfl (hk7 (x3, (x2 - x2 / x3 * x3), (x4 + 1), σ) r h)
theorem A8_commonPart_7 {l : Launch} (p : Int32 × Int32 × Int32 × HS) (r : Int32 × HS) (h : f8_commonPart_7 p = some r) : AR l RX8 cX8_commonPart 6 (some .int) (wsU yX8_commonPart cX8_commonPart 6 (some .int)) rm8_commonPart SC 7 [(2, .int (p.1)), (3, .int (p.2.1)), (4, .int (p.2.2.1))] [] p.2.2.2 (some (.int r.1), r.2) := by
  unfold f8_commonPart_7 at h
  exact wloop_run (body := fun k7 p => f8_commonPart_7_b k7 p.1 p.2.1 p.2.2.1 p.2.2.2) (Q := fun p r => AR l RX8 cX8_commonPart 6 (some .int) (wsU yX8_commonPart cX8_commonPart 6 (some .int)) rm8_commonPart SC 7 [(2, .int (p.1)), (3, .int (p.2.1)), (4, .int (p.2.2.1))] [] p.2.2.2 (some (.int r.1), r.2)) (fun k7 hk7 p r h => A8_commonPart_7_b k7 p.1 p.2.1 p.2.2.1 hk7 p.2.2.2 r h) fuelN p r h
set_option maxHeartbeats 4000000 in
set_option maxRecDepth 100000 in
theorem A8_commonPart {l : Launch} (x0 : Int32) (x1 : Int32) (σ : HS) (r : Int32 × HS) (h : f8_commonPart x0 x1 σ = some r) : MA l yX8_commonPart (wsU yX8_commonPart cX8_commonPart 6 (some .int)) rm8_commonPart SC [.int x0, .int x1] σ (some (.int r.1), r.2) := by
  refine MA.of (L := [(0, .int x0), (1, .int x1)]) pn_X8_commonPart rfl (fun _ => Nat.le_of_ble_eq_true rfl) (fun _ => rfl) ?_
  unfold f8_commonPart at h
  refine AR.iload_n (pc := 0) (j := 0) dX8_commonPart_0 rfl rfl ?_
  refine AR.istore_n (pc := 1) (L2 := [(2, .int x0), (0, .int x0), (1, .int x1)]) dX8_commonPart_1 rfl (by decide) rfl ?_
  refine AR.iload_n (pc := 2) (j := 2) dX8_commonPart_2 rfl rfl ?_
  refine AR.istore_n (pc := 3) (L2 := [(3, .int x1), (2, .int x0), (0, .int x0), (1, .int x1)]) dX8_commonPart_3 rfl (by decide) rfl ?_
  refine AR.iconst (pc := 4) (v := 0) dX8_commonPart_4 (by decide) ?_
  refine AR.istore (pc := 5) (L2 := [(4, .int 0), (3, .int x1), (2, .int x0), (0, .int x0), (1, .int x1)]) dX8_commonPart_5 (by decide) rfl ?_
  exact AR.pick [2, 1, 0] rfl (A8_commonPart_7 (x0, x1, 0, σ) r h)
noncomputable def f8_share_20 (σ : HS) : Option (Int64 × HS) :=
  some ((-9223372036854775808), σ)
noncomputable def f8_share_24 (x1 : Int32) (x2 : Int32) (σ : HS) : Option (Int64 × HS) :=
  bd (f8_planAhead σ) fun r1 =>
  bd (f1_goFreely 20 r1) fun r2 =>
  bd (f1_runAwayBy x1 r2) fun r3 =>
  bd (f8_commonPart (r3.1) ((r3.2).1 5 1) (r3.2)) fun r4 =>
  if 0 < (r4.1 : Int32) then
    if (x2 : Int32) = 0 then
      if (r4.1 : Int32) = 0 then none else
      some ((((r3.1) / (r4.1)) : Int32).toInt64, r4.2)
    else
      if (r4.1 : Int32) = 0 then none else
      some (((((r3.2).1 5 1) / (r4.1)) : Int32).toInt64, r4.2)
  else
    some ((-9223372036854775808), r4.2)
noncomputable def f8_share (x1 : Int32) (x2 : Int32) (σ : HS) : Option (Int64 × HS) :=
  bd (f4_has x1 σ) fun r1 =>
  if (r1.1 : Int32) = 0 then
    f8_share_20 (r1.2)
  else
    if (x2 : Int32) = 0 then
      f8_share_24 x1 x2 (r1.2)
    else
      if (x2 : Int32) = 1 then
        f8_share_24 x1 x2 (r1.2)
      else
        f8_share_20 (r1.2)
set_option maxHeartbeats 4000000 in
set_option maxRecDepth 100000 in
theorem A8_share_20 {l : Launch} (σ : HS) (r : Int64 × HS) (h : f8_share_20 σ = some r) : AR l RX8 cX8_share 6 (some .long) (wsU yX8_share cX8_share 6 (some .long)) rm8_share SC 20 [] [] σ (some (.long r.1), r.2) := by
  unfold f8_share_20 at h
  refine AR.ldc2 (pc := 20) (v := (-9223372036854775808)) dX8_share_20 (wsU_in kl_X8_247) ?_
  exact AR.lret (pc := 23) rfl dX8_share_23 (hrL (Option.some.inj h))
set_option maxHeartbeats 4000000 in
set_option maxRecDepth 100000 in
theorem A8_share_24 {l : Launch} (x1 : Int32) (x2 : Int32) (σ : HS) (r : Int64 × HS) (h : f8_share_24 x1 x2 σ = some r) : AR l RX8 cX8_share 6 (some .long) (wsU yX8_share cX8_share 6 (some .long)) rm8_share SC 24 [(0, .ref 0), (1, .int x1), (2, .int x2)] [] σ (some (.long r.1), r.2) := by
  unfold f8_share_24 at h
  refine AR.aload_n (pc := 24) (j := 0) dX8_share_24 rfl rfl ?_
  obtain ⟨r1, h1, h⟩ := bd_some h
  refine AR.callV (pc := 25) (As := []) (st := []) (ci := 8) dX8_share_25 ⟨cd_X8_planAhead, im_X8_planAhead, se_X8_planAhead, ini_X8⟩ ml_X8_216 (A8_planAhead σ _ h1) ⟨rfl, pd_X8_planAhead⟩ ⟨Nat.le_of_ble_eq_true rfl, Nat.le_of_ble_eq_true rfl⟩ ⟨rfl, rfl⟩ rfl rfl rfl (Nat.le_of_ble_eq_true rfl) ?_
  refine AR.aload_n (pc := 28) (j := 0) dX8_share_28 rfl rfl ?_
  refine AR.getf (pc := 29) (ci := 8) (j := 5) (d := 27 + 2) (v := .ref 27) (T := TX8) dX8_share_29 rfl rfl rfl (by decide) (fun w hw => wsU_in (uw_X8 w hw)) (wsU_in fl_X8_72) rfl ?_
  obtain ⟨r2, h2, h⟩ := bd_some h
  refine AR.callVN (pc := 32) (As := []) (st := []) (ci := 1) dX8_share_32 ⟨cd_X1_goFreely, im_X1_goFreely, se_X1_goFreely, ini_X1⟩ mn_X8_222 (A1_goFreely 20 grp20 r1 _ h2) ⟨rfl, pd_X1_goFreely⟩ ⟨Nat.le_of_ble_eq_true rfl, Nat.le_of_ble_eq_true rfl⟩ ⟨rfl, rfl⟩ rfl rfl rfl (Nat.le_of_ble_eq_true rfl) ?_
  refine AR.aload_n (pc := 35) (j := 0) dX8_share_35 rfl rfl ?_
  refine AR.getf (pc := 36) (ci := 8) (j := 5) (d := 27 + 2) (v := .ref 27) (T := TX8) dX8_share_36 rfl rfl rfl (by decide) (fun w hw => wsU_in (uw_X8 w hw)) (wsU_in fl_X8_72) rfl ?_
  refine AR.iload_n (pc := 39) (j := 1) dX8_share_39 rfl rfl ?_
  obtain ⟨r3, h3, h⟩ := bd_some h
  refine AR.callVN (pc := 40) (As := [.int x1]) (st := []) (ci := 1) dX8_share_40 ⟨cd_X1_runAwayBy, im_X1_runAwayBy, se_X1_runAwayBy, ini_X1⟩ mn_X8_293 (A1_runAwayBy x1 r2 _ h3) ⟨rfl, pd_X1_runAwayBy⟩ ⟨Nat.le_of_ble_eq_true rfl, Nat.le_of_ble_eq_true rfl⟩ ⟨rfl, rfl⟩ rfl rfl rfl (Nat.le_of_ble_eq_true rfl) ?_
  refine AR.istore_n (pc := 43) (L2 := [(3, .int (r3.1)), (0, .ref 0), (1, .int x1), (2, .int x2)]) dX8_share_43 rfl (by decide) rfl ?_
  refine AR.aload_n (pc := 44) (j := 1) dX8_share_44 rfl rfl ?_
  refine AR.getf (pc := 45) (ci := 8) (j := 1) (d := 5 + 2) (v := .ref 5) (T := TX8) dX8_share_45 rfl rfl rfl (by decide) (fun w hw => wsU_in (uw_X8 w hw)) (wsU_in fl_X8_32) rfl ?_
  refine AR.getfN (pc := 48) (ci := 4) (j := 1) (d := 0) (v := .int ((r3.2).1 5 1)) (T := TX4) dX8_share_48 rfl rfl rfl (by decide) (fun w hw => wsU_in (uw_X4 w hw)) fn_X8_213 rfl ?_
  refine AR.istore (pc := 51) (L2 := [(4, .int ((r3.2).1 5 1)), (3, .int (r3.1)), (0, .ref 0), (1, .int x1), (2, .int x2)]) dX8_share_51 (by decide) rfl ?_
  refine AR.iload_n (pc := 53) (j := 1) dX8_share_53 rfl rfl ?_
  refine AR.iload (pc := 54) (j := 0) dX8_share_54 rfl ?_
  obtain ⟨r4, h4, h⟩ := bd_some h
  refine AR.callS (pc := 56) (As := [.int (r3.1), .int ((r3.2).1 5 1)]) (st := []) dX8_share_56 ⟨cd_X8_commonPart, sm_X8_commonPart, ini_X8⟩ ml_X8_296 (A8_commonPart (r3.1) ((r3.2).1 5 1) (r3.2) _ h4) ⟨rfl, pd_X8_commonPart⟩ ⟨Nat.le_of_ble_eq_true rfl, Nat.le_of_ble_eq_true rfl⟩ ⟨rfl, rfl⟩ rfl (Nat.le_of_ble_eq_true rfl) ?_
  refine AR.istore (pc := 59) (L2 := [(5, .int (r4.1)), (4, .int ((r3.2).1 5 1)), (3, .int (r3.1)), (0, .ref 0), (1, .int x1), (2, .int x2)]) dX8_share_59 (by decide) rfl ?_
  refine AR.iload (pc := 61) (j := 0) dX8_share_61 rfl ?_
  refine AR.if_gt (pc := 63) (tgt := 70) dX8_share_63 (by decide) (fun c5 => ?_) (fun c5 => ?_)
  · replace h := ite_t c5 h
    refine AR.iload_n (pc := 70) (j := 5) dX8_share_70 rfl rfl ?_
    refine AR.if_ne (pc := 71) (tgt := 82) dX8_share_71 (by decide) (fun c6 => ?_) (fun c6 => ?_)
    · replace h := ite_f c6 h
      refine AR.iload (pc := 82) (j := 1) dX8_share_82 rfl ?_
      refine AR.iload (pc := 84) (j := 0) dX8_share_84 rfl ?_
      obtain ⟨c7, h⟩ := gn_some h
      refine AR.idiv (pc := 86) dX8_share_86 c7 ?_
      refine AR.i2l (pc := 87) dX8_share_87 ?_
      exact AR.lret (pc := 88) rfl dX8_share_88 (hrL (Option.some.inj h))
    · replace h := ite_t c6 h
      refine AR.iload_n (pc := 74) (j := 2) dX8_share_74 rfl rfl ?_
      refine AR.iload (pc := 75) (j := 0) dX8_share_75 rfl ?_
      obtain ⟨c8, h⟩ := gn_some h
      refine AR.idiv (pc := 77) dX8_share_77 c8 ?_
      refine AR.i2l (pc := 78) dX8_share_78 ?_
      refine AR.goto (pc := 79) (tgt := 88) dX8_share_79 (by decide) ?_
      exact AR.lret (pc := 88) rfl dX8_share_88 (hrL (Option.some.inj h))
  · replace h := ite_f c5 h
    refine AR.ldc2 (pc := 66) (v := (-9223372036854775808)) dX8_share_66 (wsU_in kl_X8_247) ?_
    exact AR.lret (pc := 69) rfl dX8_share_69 (hrL (Option.some.inj h))
set_option maxHeartbeats 4000000 in
set_option maxRecDepth 100000 in
theorem A8_share {l : Launch} (x1 : Int32) (x2 : Int32) (σ : HS) (r : Int64 × HS) (h : f8_share x1 x2 σ = some r) : MA l yX8_share (wsU yX8_share cX8_share 6 (some .long)) rm8_share SC [.ref 0, .int x1, .int x2] σ (some (.long r.1), r.2) := by
  refine MA.of (L := [(0, .ref 0), (1, .int x1), (2, .int x2)]) pn_X8_share rfl (fun _ => Nat.le_of_ble_eq_true rfl) (fun _ => rfl) ?_
  unfold f8_share at h
  refine AR.aload_n (pc := 0) (j := 0) dX8_share_0 rfl rfl ?_
  refine AR.getf (pc := 1) (ci := 8) (j := 1) (d := 5 + 2) (v := .ref 5) (T := TX8) dX8_share_1 rfl rfl rfl (by decide) (fun w hw => wsU_in (uw_X8 w hw)) (wsU_in fl_X8_32) rfl ?_
  refine AR.iload_n (pc := 4) (j := 1) dX8_share_4 rfl rfl ?_
  obtain ⟨r1, h1, h⟩ := bd_some h
  refine AR.callVN (pc := 5) (As := [.int x1]) (st := []) (ci := 4) dX8_share_5 ⟨cd_X4_has, im_X4_has, se_X4_has, ini_X4⟩ mn_X8_135 (A4_has x1 σ _ h1) ⟨rfl, pd_X4_has⟩ ⟨Nat.le_of_ble_eq_true rfl, Nat.le_of_ble_eq_true rfl⟩ ⟨rfl, rfl⟩ rfl rfl rfl (Nat.le_of_ble_eq_true rfl) ?_
  refine AR.if_eq (pc := 8) (tgt := 20) dX8_share_8 (by decide) (fun c2 => ?_) (fun c2 => ?_)
  · replace h := ite_t c2 h
    exact AR.pick [] rfl (A8_share_20 (r1.2) r h)
  · replace h := ite_f c2 h
    refine AR.iload_n (pc := 11) (j := 2) dX8_share_11 rfl rfl ?_
    refine AR.if_eq (pc := 12) (tgt := 24) dX8_share_12 (by decide) (fun c3 => ?_) (fun c3 => ?_)
    · replace h := ite_t c3 h
      exact AR.pick [0, 1, 2] rfl (A8_share_24 x1 x2 (r1.2) r h)
    · replace h := ite_f c3 h
      refine AR.iload_n (pc := 15) (j := 2) dX8_share_15 rfl rfl ?_
      refine AR.iconst (pc := 16) (v := 1) dX8_share_16 (by decide) ?_
      refine AR.icmp_eq (pc := 17) (tgt := 24) dX8_share_17 (by decide) (fun c4 => ?_) (fun c4 => ?_)
      · replace h := ite_t c4 h
        exact AR.pick [0, 1, 2] rfl (A8_share_24 x1 x2 (r1.2) r h)
      · replace h := ite_f c4 h
        exact AR.pick [] rfl (A8_share_20 (r1.2) r h)
noncomputable def f8_sheet_26 (σ : HS) : Option (Int32 × HS) :=
  bd (f8_told (-2) σ) fun r1 =>
  some (r1.1, r1.2)
noncomputable def f8_sheet (x1 : Int32) (x2 : Int32) (x3 : Int32) (σ : HS) : Option (Int32 × HS) :=
  bd (f7_isSheet x1 σ) fun r1 =>
  if (r1.1 : Int32) = 0 then
    bd (f8_told (-1) (r1.2)) fun r10 =>
    some (r10.1, r10.2)
  else
    bd (f7_isLane x2 (r1.2)) fun r3 =>
    if (r3.1 : Int32) = 0 then
      f8_sheet_26 (r3.2)
    else
      if (x3 : Int32) ≤ 100 then
        if 0 ≤ (x3 : Int32) then
          bd (f7_renew x1 x2 x3 (r3.2)) fun r7 =>
          bd (f8_told 1 r7) fun r8 =>
          some (r8.1, r8.2)
        else
          bd (f8_told (-14) (r3.2)) fun r9 =>
          some (r9.1, r9.2)
      else
        f8_sheet_26 (r3.2)
set_option maxHeartbeats 4000000 in
set_option maxRecDepth 100000 in
theorem A8_sheet_26 {l : Launch} (σ : HS) (r : Int32 × HS) (h : f8_sheet_26 σ = some r) : AR l RX8 cX8_sheet 4 (some .int) (wsU yX8_sheet cX8_sheet 4 (some .int)) rm8_sheet SC 26 [(0, .ref 0)] [] σ (some (.int r.1), r.2) := by
  unfold f8_sheet_26 at h
  refine AR.aload_n (pc := 26) (j := 0) dX8_sheet_26 rfl rfl ?_
  refine AR.bipush (pc := 27) (v := (-2)) dX8_sheet_27 (by decide) ?_
  obtain ⟨r1, h1, h⟩ := bd_some h
  refine AR.callV (pc := 29) (As := [.int (-2)]) (st := []) (ci := 8) dX8_sheet_29 ⟨cd_X8_told, im_X8_told, se_X8_told, ini_X8⟩ ml_X8_109 (A8_told (-2) σ _ h1) ⟨rfl, pd_X8_told⟩ ⟨Nat.le_of_ble_eq_true rfl, Nat.le_of_ble_eq_true rfl⟩ ⟨rfl, rfl⟩ rfl rfl rfl (Nat.le_of_ble_eq_true rfl) ?_
  exact AR.iret (pc := 32) rfl dX8_sheet_32 (hrI (Option.some.inj h))
set_option maxHeartbeats 4000000 in
set_option maxRecDepth 100000 in
theorem A8_sheet {l : Launch} (x1 : Int32) (x2 : Int32) (x3 : Int32) (σ : HS) (r : Int32 × HS) (h : f8_sheet x1 x2 x3 σ = some r) : MA l yX8_sheet (wsU yX8_sheet cX8_sheet 4 (some .int)) rm8_sheet SC [.ref 0, .int x1, .int x2, .int x3] σ (some (.int r.1), r.2) := by
  refine MA.of (L := [(0, .ref 0), (1, .int x1), (2, .int x2), (3, .int x3)]) pn_X8_sheet rfl (fun _ => Nat.le_of_ble_eq_true rfl) (fun _ => rfl) ?_
  unfold f8_sheet at h
  refine AR.iload_n (pc := 0) (j := 1) dX8_sheet_0 rfl rfl ?_
  obtain ⟨r1, h1, h⟩ := bd_some h
  refine AR.callSN (pc := 1) (As := [.int x1]) (st := []) dX8_sheet_1 ⟨cd_X7_isSheet, sm_X7_isSheet, ini_X7⟩ mn_X8_299 (A7_isSheet x1 σ _ h1) pd_X7_isSheet ⟨Nat.le_of_ble_eq_true rfl, Nat.le_of_ble_eq_true rfl⟩ ⟨rfl, rfl⟩ rfl (Nat.le_of_ble_eq_true rfl) ?_
  refine AR.if_ne (pc := 4) (tgt := 13) dX8_sheet_4 (by decide) (fun c2 => ?_) (fun c2 => ?_)
  · replace h := ite_f c2 h
    refine AR.iload_n (pc := 13) (j := 2) dX8_sheet_13 rfl rfl ?_
    obtain ⟨r3, h3, h⟩ := bd_some h
    refine AR.callSN (pc := 14) (As := [.int x2]) (st := []) dX8_sheet_14 ⟨cd_X7_isLane, sm_X7_isLane, ini_X7⟩ mn_X8_302 (A7_isLane x2 (r1.2) _ h3) pd_X7_isLane ⟨Nat.le_of_ble_eq_true rfl, Nat.le_of_ble_eq_true rfl⟩ ⟨rfl, rfl⟩ rfl (Nat.le_of_ble_eq_true rfl) ?_
    refine AR.if_eq (pc := 17) (tgt := 26) dX8_sheet_17 (by decide) (fun c4 => ?_) (fun c4 => ?_)
    · replace h := ite_t c4 h
      exact AR.pick [0] rfl (A8_sheet_26 (r3.2) r h)
    · replace h := ite_f c4 h
      refine AR.iload_n (pc := 20) (j := 3) dX8_sheet_20 rfl rfl ?_
      refine AR.bipush (pc := 21) (v := 100) dX8_sheet_21 (by decide) ?_
      refine AR.icmp_le (pc := 23) (tgt := 33) dX8_sheet_23 (by decide) (fun c5 => ?_) (fun c5 => ?_)
      · replace h := ite_t c5 h
        refine AR.iload_n (pc := 33) (j := 3) dX8_sheet_33 rfl rfl ?_
        refine AR.if_ge (pc := 34) (tgt := 44) dX8_sheet_34 (by decide) (fun c6 => ?_) (fun c6 => ?_)
        · replace h := ite_t c6 h
          refine AR.aload_n (pc := 44) (j := 0) dX8_sheet_44 rfl rfl ?_
          refine AR.getf (pc := 45) (ci := 8) (j := 0) (d := 1 + 2) (v := .ref 1) (T := TX8) dX8_sheet_45 rfl rfl rfl (by decide) (fun w hw => wsU_in (uw_X8 w hw)) (wsU_in fl_X8_25) rfl ?_
          refine AR.iload_n (pc := 48) (j := 1) dX8_sheet_48 rfl rfl ?_
          refine AR.iload_n (pc := 49) (j := 2) dX8_sheet_49 rfl rfl ?_
          refine AR.iload_n (pc := 50) (j := 3) dX8_sheet_50 rfl rfl ?_
          obtain ⟨r7, h7, h⟩ := bd_some h
          refine AR.callVN (pc := 51) (As := [.int x1, .int x2, .int x3]) (st := []) (ci := 7) dX8_sheet_51 ⟨cd_X7_renew, im_X7_renew, se_X7_renew, ini_X7⟩ mn_X8_305 (A7_renew x1 x2 x3 (r3.2) _ h7) ⟨rfl, pd_X7_renew⟩ ⟨Nat.le_of_ble_eq_true rfl, Nat.le_of_ble_eq_true rfl⟩ ⟨rfl, rfl⟩ rfl rfl rfl (Nat.le_of_ble_eq_true rfl) ?_
          refine AR.aload_n (pc := 54) (j := 0) dX8_sheet_54 rfl rfl ?_
          refine AR.iconst (pc := 55) (v := 1) dX8_sheet_55 (by decide) ?_
          obtain ⟨r8, h8, h⟩ := bd_some h
          refine AR.callV (pc := 56) (As := [.int 1]) (st := []) (ci := 8) dX8_sheet_56 ⟨cd_X8_told, im_X8_told, se_X8_told, ini_X8⟩ ml_X8_109 (A8_told 1 r7 _ h8) ⟨rfl, pd_X8_told⟩ ⟨Nat.le_of_ble_eq_true rfl, Nat.le_of_ble_eq_true rfl⟩ ⟨rfl, rfl⟩ rfl rfl rfl (Nat.le_of_ble_eq_true rfl) ?_
          exact AR.iret (pc := 59) rfl dX8_sheet_59 (hrI (Option.some.inj h))
        · replace h := ite_f c6 h
          refine AR.aload_n (pc := 37) (j := 0) dX8_sheet_37 rfl rfl ?_
          refine AR.bipush (pc := 38) (v := (-14)) dX8_sheet_38 (by decide) ?_
          obtain ⟨r9, h9, h⟩ := bd_some h
          refine AR.callV (pc := 40) (As := [.int (-14)]) (st := []) (ci := 8) dX8_sheet_40 ⟨cd_X8_told, im_X8_told, se_X8_told, ini_X8⟩ ml_X8_109 (A8_told (-14) (r3.2) _ h9) ⟨rfl, pd_X8_told⟩ ⟨Nat.le_of_ble_eq_true rfl, Nat.le_of_ble_eq_true rfl⟩ ⟨rfl, rfl⟩ rfl rfl rfl (Nat.le_of_ble_eq_true rfl) ?_
          exact AR.iret (pc := 43) rfl dX8_sheet_43 (hrI (Option.some.inj h))
      · replace h := ite_f c5 h
        exact AR.pick [0] rfl (A8_sheet_26 (r3.2) r h)
  · replace h := ite_t c2 h
    refine AR.aload_n (pc := 7) (j := 0) dX8_sheet_7 rfl rfl ?_
    refine AR.iconst (pc := 8) (v := (-1)) dX8_sheet_8 (by decide) ?_
    obtain ⟨r10, h10, h⟩ := bd_some h
    refine AR.callV (pc := 9) (As := [.int (-1)]) (st := []) (ci := 8) dX8_sheet_9 ⟨cd_X8_told, im_X8_told, se_X8_told, ini_X8⟩ ml_X8_109 (A8_told (-1) (r1.2) _ h10) ⟨rfl, pd_X8_told⟩ ⟨Nat.le_of_ble_eq_true rfl, Nat.le_of_ble_eq_true rfl⟩ ⟨rfl, rfl⟩ rfl rfl rfl (Nat.le_of_ble_eq_true rfl) ?_
    exact AR.iret (pc := 12) rfl dX8_sheet_12 (hrI (Option.some.inj h))
noncomputable def f8_lose (x1 : Int32) (σ : HS) : Option (Int32 × HS) :=
  bd (f7_isSheet x1 σ) fun r1 =>
  if (r1.1 : Int32) = 0 then
    some ((-1), r1.2)
  else
    bd (f7_drop x1 (r1.2)) fun r3 =>
    if (r3.1 : Int32) = 0 then
      some (0, r3.2)
    else
      some (1, r3.2)
set_option maxHeartbeats 4000000 in
set_option maxRecDepth 100000 in
theorem A8_lose {l : Launch} (x1 : Int32) (σ : HS) (r : Int32 × HS) (h : f8_lose x1 σ = some r) : MA l yX8_lose (wsU yX8_lose cX8_lose 2 (some .int)) rm8_lose SC [.ref 0, .int x1] σ (some (.int r.1), r.2) := by
  refine MA.of (L := [(0, .ref 0), (1, .int x1)]) pn_X8_lose rfl (fun _ => Nat.le_of_ble_eq_true rfl) (fun _ => rfl) ?_
  unfold f8_lose at h
  refine AR.iload_n (pc := 0) (j := 1) dX8_lose_0 rfl rfl ?_
  obtain ⟨r1, h1, h⟩ := bd_some h
  refine AR.callSN (pc := 1) (As := [.int x1]) (st := []) dX8_lose_1 ⟨cd_X7_isSheet, sm_X7_isSheet, ini_X7⟩ mn_X8_299 (A7_isSheet x1 σ _ h1) pd_X7_isSheet ⟨Nat.le_of_ble_eq_true rfl, Nat.le_of_ble_eq_true rfl⟩ ⟨rfl, rfl⟩ rfl (Nat.le_of_ble_eq_true rfl) ?_
  refine AR.if_ne (pc := 4) (tgt := 9) dX8_lose_4 (by decide) (fun c2 => ?_) (fun c2 => ?_)
  · replace h := ite_f c2 h
    refine AR.aload_n (pc := 9) (j := 0) dX8_lose_9 rfl rfl ?_
    refine AR.getf (pc := 10) (ci := 8) (j := 0) (d := 1 + 2) (v := .ref 1) (T := TX8) dX8_lose_10 rfl rfl rfl (by decide) (fun w hw => wsU_in (uw_X8 w hw)) (wsU_in fl_X8_25) rfl ?_
    refine AR.iload_n (pc := 13) (j := 1) dX8_lose_13 rfl rfl ?_
    obtain ⟨r3, h3, h⟩ := bd_some h
    refine AR.callVN (pc := 14) (As := [.int x1]) (st := []) (ci := 7) dX8_lose_14 ⟨cd_X7_drop, im_X7_drop, se_X7_drop, ini_X7⟩ mn_X8_309 (A7_drop x1 (r1.2) _ h3) ⟨rfl, pd_X7_drop⟩ ⟨Nat.le_of_ble_eq_true rfl, Nat.le_of_ble_eq_true rfl⟩ ⟨rfl, rfl⟩ rfl rfl rfl (Nat.le_of_ble_eq_true rfl) ?_
    refine AR.if_eq (pc := 17) (tgt := 24) dX8_lose_17 (by decide) (fun c4 => ?_) (fun c4 => ?_)
    · replace h := ite_t c4 h
      refine AR.iconst (pc := 24) (v := 0) dX8_lose_24 (by decide) ?_
      exact AR.iret (pc := 25) rfl dX8_lose_25 (hrI (Option.some.inj h))
    · replace h := ite_f c4 h
      refine AR.iconst (pc := 20) (v := 1) dX8_lose_20 (by decide) ?_
      refine AR.goto (pc := 21) (tgt := 25) dX8_lose_21 (by decide) ?_
      exact AR.iret (pc := 25) rfl dX8_lose_25 (hrI (Option.some.inj h))
  · replace h := ite_t c2 h
    refine AR.iconst (pc := 7) (v := (-1)) dX8_lose_7 (by decide) ?_
    exact AR.iret (pc := 8) rfl dX8_lose_8 (hrI (Option.some.inj h))
noncomputable def f8_put_47 (σ : HS) : Option (Int32 × HS) :=
  bd (f8_told (-13) σ) fun r1 =>
  some (r1.1, r1.2)
noncomputable def f8_put (x1 : Int32) (x2 : Int32) (x3 : Int32) (σ : HS) : Option (Int32 × HS) :=
  bd (f7_isSheet x1 σ) fun r1 =>
  if (r1.1 : Int32) = 0 then
    bd (f8_told (-1) (r1.2)) fun r11 =>
    some (r11.1, r11.2)
  else
    bd (f7_isEmpty x1 (r1.2)) fun r3 =>
    if (r3.1 : Int32) = 0 then
      if (x2 : Int32) < 0 then
        f8_put_47 (r3.2)
      else
        bd (f7_sizeOf x1 (r3.2)) fun r6 =>
        if (x2 : Int32) < (r6.1) then
          bd (f7_store x1 x2 x3 (r6.2)) fun r8 =>
          bd (f8_told 1 r8) fun r9 =>
          some (r9.1, r9.2)
        else
          f8_put_47 (r6.2)
    else
      bd (f8_told (-11) (r3.2)) fun r10 =>
      some (r10.1, r10.2)
set_option maxHeartbeats 4000000 in
set_option maxRecDepth 100000 in
theorem A8_put_47 {l : Launch} (σ : HS) (r : Int32 × HS) (h : f8_put_47 σ = some r) : AR l RX8 cX8_put 4 (some .int) (wsU yX8_put cX8_put 4 (some .int)) rm8_put SC 47 [(0, .ref 0)] [] σ (some (.int r.1), r.2) := by
  unfold f8_put_47 at h
  refine AR.aload_n (pc := 47) (j := 0) dX8_put_47 rfl rfl ?_
  refine AR.bipush (pc := 48) (v := (-13)) dX8_put_48 (by decide) ?_
  obtain ⟨r1, h1, h⟩ := bd_some h
  refine AR.callV (pc := 50) (As := [.int (-13)]) (st := []) (ci := 8) dX8_put_50 ⟨cd_X8_told, im_X8_told, se_X8_told, ini_X8⟩ ml_X8_109 (A8_told (-13) σ _ h1) ⟨rfl, pd_X8_told⟩ ⟨Nat.le_of_ble_eq_true rfl, Nat.le_of_ble_eq_true rfl⟩ ⟨rfl, rfl⟩ rfl rfl rfl (Nat.le_of_ble_eq_true rfl) ?_
  exact AR.iret (pc := 53) rfl dX8_put_53 (hrI (Option.some.inj h))
set_option maxHeartbeats 4000000 in
set_option maxRecDepth 100000 in
theorem A8_put {l : Launch} (x1 : Int32) (x2 : Int32) (x3 : Int32) (σ : HS) (r : Int32 × HS) (h : f8_put x1 x2 x3 σ = some r) : MA l yX8_put (wsU yX8_put cX8_put 4 (some .int)) rm8_put SC [.ref 0, .int x1, .int x2, .int x3] σ (some (.int r.1), r.2) := by
  refine MA.of (L := [(0, .ref 0), (1, .int x1), (2, .int x2), (3, .int x3)]) pn_X8_put rfl (fun _ => Nat.le_of_ble_eq_true rfl) (fun _ => rfl) ?_
  unfold f8_put at h
  refine AR.iload_n (pc := 0) (j := 1) dX8_put_0 rfl rfl ?_
  obtain ⟨r1, h1, h⟩ := bd_some h
  refine AR.callSN (pc := 1) (As := [.int x1]) (st := []) dX8_put_1 ⟨cd_X7_isSheet, sm_X7_isSheet, ini_X7⟩ mn_X8_299 (A7_isSheet x1 σ _ h1) pd_X7_isSheet ⟨Nat.le_of_ble_eq_true rfl, Nat.le_of_ble_eq_true rfl⟩ ⟨rfl, rfl⟩ rfl (Nat.le_of_ble_eq_true rfl) ?_
  refine AR.if_ne (pc := 4) (tgt := 13) dX8_put_4 (by decide) (fun c2 => ?_) (fun c2 => ?_)
  · replace h := ite_f c2 h
    refine AR.aload_n (pc := 13) (j := 0) dX8_put_13 rfl rfl ?_
    refine AR.getf (pc := 14) (ci := 8) (j := 0) (d := 1 + 2) (v := .ref 1) (T := TX8) dX8_put_14 rfl rfl rfl (by decide) (fun w hw => wsU_in (uw_X8 w hw)) (wsU_in fl_X8_25) rfl ?_
    refine AR.iload_n (pc := 17) (j := 1) dX8_put_17 rfl rfl ?_
    obtain ⟨r3, h3, h⟩ := bd_some h
    refine AR.callVN (pc := 18) (As := [.int x1]) (st := []) (ci := 7) dX8_put_18 ⟨cd_X7_isEmpty, im_X7_isEmpty, se_X7_isEmpty, ini_X7⟩ mn_X8_312 (A7_isEmpty x1 (r1.2) _ h3) ⟨rfl, pd_X7_isEmpty⟩ ⟨Nat.le_of_ble_eq_true rfl, Nat.le_of_ble_eq_true rfl⟩ ⟨rfl, rfl⟩ rfl rfl rfl (Nat.le_of_ble_eq_true rfl) ?_
    refine AR.if_eq (pc := 21) (tgt := 31) dX8_put_21 (by decide) (fun c4 => ?_) (fun c4 => ?_)
    · replace h := ite_t c4 h
      refine AR.iload_n (pc := 31) (j := 2) dX8_put_31 rfl rfl ?_
      refine AR.if_lt (pc := 32) (tgt := 47) dX8_put_32 (by decide) (fun c5 => ?_) (fun c5 => ?_)
      · replace h := ite_t c5 h
        exact AR.pick [0] rfl (A8_put_47 (r3.2) r h)
      · replace h := ite_f c5 h
        refine AR.iload_n (pc := 35) (j := 2) dX8_put_35 rfl rfl ?_
        refine AR.aload_n (pc := 36) (j := 0) dX8_put_36 rfl rfl ?_
        refine AR.getf (pc := 37) (ci := 8) (j := 0) (d := 1 + 2) (v := .ref 1) (T := TX8) dX8_put_37 rfl rfl rfl (by decide) (fun w hw => wsU_in (uw_X8 w hw)) (wsU_in fl_X8_25) rfl ?_
        refine AR.iload_n (pc := 40) (j := 1) dX8_put_40 rfl rfl ?_
        obtain ⟨r6, h6, h⟩ := bd_some h
        refine AR.callVN (pc := 41) (As := [.int x1]) (st := [.int x2]) (ci := 7) dX8_put_41 ⟨cd_X7_sizeOf, im_X7_sizeOf, se_X7_sizeOf, ini_X7⟩ mn_X8_315 (A7_sizeOf x1 (r3.2) _ h6) ⟨rfl, pd_X7_sizeOf⟩ ⟨Nat.le_of_ble_eq_true rfl, Nat.le_of_ble_eq_true rfl⟩ ⟨rfl, rfl⟩ rfl rfl rfl (Nat.le_of_ble_eq_true rfl) ?_
        refine AR.icmp_lt (pc := 44) (tgt := 54) dX8_put_44 (by decide) (fun c7 => ?_) (fun c7 => ?_)
        · replace h := ite_t c7 h
          refine AR.aload_n (pc := 54) (j := 0) dX8_put_54 rfl rfl ?_
          refine AR.getf (pc := 55) (ci := 8) (j := 0) (d := 1 + 2) (v := .ref 1) (T := TX8) dX8_put_55 rfl rfl rfl (by decide) (fun w hw => wsU_in (uw_X8 w hw)) (wsU_in fl_X8_25) rfl ?_
          refine AR.iload_n (pc := 58) (j := 1) dX8_put_58 rfl rfl ?_
          refine AR.iload_n (pc := 59) (j := 2) dX8_put_59 rfl rfl ?_
          refine AR.iload_n (pc := 60) (j := 3) dX8_put_60 rfl rfl ?_
          obtain ⟨r8, h8, h⟩ := bd_some h
          refine AR.callVN (pc := 61) (As := [.int x1, .int x2, .int x3]) (st := []) (ci := 7) dX8_put_61 ⟨cd_X7_store, im_X7_store, se_X7_store, ini_X7⟩ mn_X8_318 (A7_store x1 x2 x3 (r6.2) _ h8) ⟨rfl, pd_X7_store⟩ ⟨Nat.le_of_ble_eq_true rfl, Nat.le_of_ble_eq_true rfl⟩ ⟨rfl, rfl⟩ rfl rfl rfl (Nat.le_of_ble_eq_true rfl) ?_
          refine AR.aload_n (pc := 64) (j := 0) dX8_put_64 rfl rfl ?_
          refine AR.iconst (pc := 65) (v := 1) dX8_put_65 (by decide) ?_
          obtain ⟨r9, h9, h⟩ := bd_some h
          refine AR.callV (pc := 66) (As := [.int 1]) (st := []) (ci := 8) dX8_put_66 ⟨cd_X8_told, im_X8_told, se_X8_told, ini_X8⟩ ml_X8_109 (A8_told 1 r8 _ h9) ⟨rfl, pd_X8_told⟩ ⟨Nat.le_of_ble_eq_true rfl, Nat.le_of_ble_eq_true rfl⟩ ⟨rfl, rfl⟩ rfl rfl rfl (Nat.le_of_ble_eq_true rfl) ?_
          exact AR.iret (pc := 69) rfl dX8_put_69 (hrI (Option.some.inj h))
        · replace h := ite_f c7 h
          exact AR.pick [0] rfl (A8_put_47 (r6.2) r h)
    · replace h := ite_f c4 h
      refine AR.aload_n (pc := 24) (j := 0) dX8_put_24 rfl rfl ?_
      refine AR.bipush (pc := 25) (v := (-11)) dX8_put_25 (by decide) ?_
      obtain ⟨r10, h10, h⟩ := bd_some h
      refine AR.callV (pc := 27) (As := [.int (-11)]) (st := []) (ci := 8) dX8_put_27 ⟨cd_X8_told, im_X8_told, se_X8_told, ini_X8⟩ ml_X8_109 (A8_told (-11) (r3.2) _ h10) ⟨rfl, pd_X8_told⟩ ⟨Nat.le_of_ble_eq_true rfl, Nat.le_of_ble_eq_true rfl⟩ ⟨rfl, rfl⟩ rfl rfl rfl (Nat.le_of_ble_eq_true rfl) ?_
      exact AR.iret (pc := 30) rfl dX8_put_30 (hrI (Option.some.inj h))
  · replace h := ite_t c2 h
    refine AR.aload_n (pc := 7) (j := 0) dX8_put_7 rfl rfl ?_
    refine AR.iconst (pc := 8) (v := (-1)) dX8_put_8 (by decide) ?_
    obtain ⟨r11, h11, h⟩ := bd_some h
    refine AR.callV (pc := 9) (As := [.int (-1)]) (st := []) (ci := 8) dX8_put_9 ⟨cd_X8_told, im_X8_told, se_X8_told, ini_X8⟩ ml_X8_109 (A8_told (-1) (r1.2) _ h11) ⟨rfl, pd_X8_told⟩ ⟨Nat.le_of_ble_eq_true rfl, Nat.le_of_ble_eq_true rfl⟩ ⟨rfl, rfl⟩ rfl rfl rfl (Nat.le_of_ble_eq_true rfl) ?_
    exact AR.iret (pc := 12) rfl dX8_put_12 (hrI (Option.some.inj h))
noncomputable def f8_cell_36 (x1 : Int32) (x2 : Int32) (x4 : Int32) (σ : HS) : Option (Int64 × HS) :=
  bd (f8_told x4 σ) fun r1 =>
  if (r1.1 : Int32) = 0 then
    bd (f7_valueAt x1 x2 (r1.2)) fun r3 =>
    some ((r3.1 : Int32).toInt64, r3.2)
  else
    some ((-9223372036854775808), r1.2)
noncomputable def f8_cell_32 (x1 : Int32) (x2 : Int32) (σ : HS) : Option (Int64 × HS) :=
  f8_cell_36 x1 x2 (-13) σ
noncomputable def f8_cell (x1 : Int32) (x2 : Int32) (x3 : Int32) (σ : HS) : Option (Int64 × HS) :=
  bd (f7_rowRefusal x1 x3 σ) fun r1 =>
  if (r1.1 : Int32) = 0 then
    if (x2 : Int32) < 0 then
      f8_cell_32 x1 x2 (r1.2)
    else
      bd (f7_sizeOf x1 (r1.2)) fun r4 =>
      if (x2 : Int32) < (r4.1) then
        f8_cell_36 x1 x2 (r1.1) (r4.2)
      else
        f8_cell_32 x1 x2 (r4.2)
  else
    f8_cell_36 x1 x2 (r1.1) (r1.2)
set_option maxHeartbeats 4000000 in
set_option maxRecDepth 100000 in
theorem A8_cell_36 {l : Launch} (x1 : Int32) (x2 : Int32) (x4 : Int32) (σ : HS) (r : Int64 × HS) (h : f8_cell_36 x1 x2 x4 σ = some r) : AR l RX8 cX8_cell 5 (some .long) (wsU yX8_cell cX8_cell 5 (some .long)) rm8_cell SC 36 [(0, .ref 0), (1, .int x1), (2, .int x2), (4, .int x4)] [] σ (some (.long r.1), r.2) := by
  unfold f8_cell_36 at h
  refine AR.aload_n (pc := 36) (j := 0) dX8_cell_36 rfl rfl ?_
  refine AR.iload (pc := 37) (j := 3) dX8_cell_37 rfl ?_
  obtain ⟨r1, h1, h⟩ := bd_some h
  refine AR.callV (pc := 39) (As := [.int x4]) (st := []) (ci := 8) dX8_cell_39 ⟨cd_X8_told, im_X8_told, se_X8_told, ini_X8⟩ ml_X8_109 (A8_told x4 σ _ h1) ⟨rfl, pd_X8_told⟩ ⟨Nat.le_of_ble_eq_true rfl, Nat.le_of_ble_eq_true rfl⟩ ⟨rfl, rfl⟩ rfl rfl rfl (Nat.le_of_ble_eq_true rfl) ?_
  refine AR.if_ne (pc := 42) (tgt := 58) dX8_cell_42 (by decide) (fun c2 => ?_) (fun c2 => ?_)
  · replace h := ite_f c2 h
    refine AR.ldc2 (pc := 58) (v := (-9223372036854775808)) dX8_cell_58 (wsU_in kl_X8_247) ?_
    exact AR.lret (pc := 61) rfl dX8_cell_61 (hrL (Option.some.inj h))
  · replace h := ite_t c2 h
    refine AR.aload_n (pc := 45) (j := 0) dX8_cell_45 rfl rfl ?_
    refine AR.getf (pc := 46) (ci := 8) (j := 0) (d := 1 + 2) (v := .ref 1) (T := TX8) dX8_cell_46 rfl rfl rfl (by decide) (fun w hw => wsU_in (uw_X8 w hw)) (wsU_in fl_X8_25) rfl ?_
    refine AR.iload_n (pc := 49) (j := 1) dX8_cell_49 rfl rfl ?_
    refine AR.iload_n (pc := 50) (j := 2) dX8_cell_50 rfl rfl ?_
    obtain ⟨r3, h3, h⟩ := bd_some h
    refine AR.callVN (pc := 51) (As := [.int x1, .int x2]) (st := []) (ci := 7) dX8_cell_51 ⟨cd_X7_valueAt, im_X7_valueAt, se_X7_valueAt, ini_X7⟩ mn_X8_200 (A7_valueAt x1 x2 (r1.2) _ h3) ⟨rfl, pd_X7_valueAt⟩ ⟨Nat.le_of_ble_eq_true rfl, Nat.le_of_ble_eq_true rfl⟩ ⟨rfl, rfl⟩ rfl rfl rfl (Nat.le_of_ble_eq_true rfl) ?_
    refine AR.i2l (pc := 54) dX8_cell_54 ?_
    refine AR.goto (pc := 55) (tgt := 61) dX8_cell_55 (by decide) ?_
    exact AR.lret (pc := 61) rfl dX8_cell_61 (hrL (Option.some.inj h))
set_option maxHeartbeats 4000000 in
set_option maxRecDepth 100000 in
theorem A8_cell_32 {l : Launch} (x1 : Int32) (x2 : Int32) (σ : HS) (r : Int64 × HS) (h : f8_cell_32 x1 x2 σ = some r) : AR l RX8 cX8_cell 5 (some .long) (wsU yX8_cell cX8_cell 5 (some .long)) rm8_cell SC 32 [(0, .ref 0), (1, .int x1), (2, .int x2)] [] σ (some (.long r.1), r.2) := by
  unfold f8_cell_32 at h
  refine AR.bipush (pc := 32) (v := (-13)) dX8_cell_32 (by decide) ?_
  refine AR.istore (pc := 34) (L2 := [(4, .int (-13)), (0, .ref 0), (1, .int x1), (2, .int x2)]) dX8_cell_34 (by decide) rfl ?_
  exact AR.pick [1, 2, 3, 0] rfl (A8_cell_36 x1 x2 (-13) σ r h)
set_option maxHeartbeats 4000000 in
set_option maxRecDepth 100000 in
theorem A8_cell {l : Launch} (x1 : Int32) (x2 : Int32) (x3 : Int32) (σ : HS) (r : Int64 × HS) (h : f8_cell x1 x2 x3 σ = some r) : MA l yX8_cell (wsU yX8_cell cX8_cell 5 (some .long)) rm8_cell SC [.ref 0, .int x1, .int x2, .int x3] σ (some (.long r.1), r.2) := by
  refine MA.of (L := [(0, .ref 0), (1, .int x1), (2, .int x2), (3, .int x3)]) pn_X8_cell rfl (fun _ => Nat.le_of_ble_eq_true rfl) (fun _ => rfl) ?_
  unfold f8_cell at h
  refine AR.aload_n (pc := 0) (j := 0) dX8_cell_0 rfl rfl ?_
  refine AR.getf (pc := 1) (ci := 8) (j := 0) (d := 1 + 2) (v := .ref 1) (T := TX8) dX8_cell_1 rfl rfl rfl (by decide) (fun w hw => wsU_in (uw_X8 w hw)) (wsU_in fl_X8_25) rfl ?_
  refine AR.iload_n (pc := 4) (j := 1) dX8_cell_4 rfl rfl ?_
  refine AR.iload_n (pc := 5) (j := 3) dX8_cell_5 rfl rfl ?_
  obtain ⟨r1, h1, h⟩ := bd_some h
  refine AR.callVN (pc := 6) (As := [.int x1, .int x3]) (st := []) (ci := 7) dX8_cell_6 ⟨cd_X7_rowRefusal, im_X7_rowRefusal, se_X7_rowRefusal, ini_X7⟩ mn_X8_321 (A7_rowRefusal x1 x3 σ _ h1) ⟨rfl, pd_X7_rowRefusal⟩ ⟨Nat.le_of_ble_eq_true rfl, Nat.le_of_ble_eq_true rfl⟩ ⟨rfl, rfl⟩ rfl rfl rfl (Nat.le_of_ble_eq_true rfl) ?_
  refine AR.istore (pc := 9) (L2 := [(4, .int (r1.1)), (0, .ref 0), (1, .int x1), (2, .int x2), (3, .int x3)]) dX8_cell_9 (by decide) rfl ?_
  refine AR.iload (pc := 11) (j := 0) dX8_cell_11 rfl ?_
  refine AR.if_ne (pc := 13) (tgt := 36) dX8_cell_13 (by decide) (fun c2 => ?_) (fun c2 => ?_)
  · replace h := ite_f c2 h
    exact AR.pick [1, 2, 3, 0] rfl (A8_cell_36 x1 x2 (r1.1) (r1.2) r h)
  · replace h := ite_t c2 h
    refine AR.iload_n (pc := 16) (j := 3) dX8_cell_16 rfl rfl ?_
    refine AR.if_lt (pc := 17) (tgt := 32) dX8_cell_17 (by decide) (fun c3 => ?_) (fun c3 => ?_)
    · replace h := ite_t c3 h
      exact AR.pick [1, 2, 3] rfl (A8_cell_32 x1 x2 (r1.2) r h)
    · replace h := ite_f c3 h
      refine AR.iload_n (pc := 20) (j := 3) dX8_cell_20 rfl rfl ?_
      refine AR.aload_n (pc := 21) (j := 1) dX8_cell_21 rfl rfl ?_
      refine AR.getf (pc := 22) (ci := 8) (j := 0) (d := 1 + 2) (v := .ref 1) (T := TX8) dX8_cell_22 rfl rfl rfl (by decide) (fun w hw => wsU_in (uw_X8 w hw)) (wsU_in fl_X8_25) rfl ?_
      refine AR.iload_n (pc := 25) (j := 2) dX8_cell_25 rfl rfl ?_
      obtain ⟨r4, h4, h⟩ := bd_some h
      refine AR.callVN (pc := 26) (As := [.int x1]) (st := [.int x2]) (ci := 7) dX8_cell_26 ⟨cd_X7_sizeOf, im_X7_sizeOf, se_X7_sizeOf, ini_X7⟩ mn_X8_315 (A7_sizeOf x1 (r1.2) _ h4) ⟨rfl, pd_X7_sizeOf⟩ ⟨Nat.le_of_ble_eq_true rfl, Nat.le_of_ble_eq_true rfl⟩ ⟨rfl, rfl⟩ rfl rfl rfl (Nat.le_of_ble_eq_true rfl) ?_
      refine AR.icmp_lt (pc := 29) (tgt := 36) dX8_cell_29 (by decide) (fun c5 => ?_) (fun c5 => ?_)
      · replace h := ite_t c5 h
        exact AR.pick [1, 2, 3, 0] rfl (A8_cell_36 x1 x2 (r1.1) (r4.2) r h)
      · replace h := ite_f c5 h
        exact AR.pick [1, 2, 3] rfl (A8_cell_32 x1 x2 (r4.2) r h)
noncomputable def f8_copy_14 (σ : HS) : Option (Int32 × HS) :=
  bd (f8_told (-1) σ) fun r1 =>
  some (r1.1, r1.2)
noncomputable def f8_copy_42 (σ : HS) : Option (Int32 × HS) :=
  bd (f8_told (-11) σ) fun r1 =>
  some (r1.1, r1.2)
noncomputable def f8_copy_109 (σ : HS) : Option (Int32 × HS) :=
  bd (f8_told (-13) σ) fun r1 =>
  some (r1.1, r1.2)
noncomputable def f8_copy (x1 : Int32) (x2 : Int32) (x3 : Int32) (x4 : Int32) (x5 : Int32) (σ : HS) : Option (Int32 × HS) :=
  bd (f7_isSheet x1 σ) fun r1 =>
  if (r1.1 : Int32) = 0 then
    f8_copy_14 (r1.2)
  else
    bd (f7_isSheet x3 (r1.2)) fun r3 =>
    if (r3.1 : Int32) = 0 then
      f8_copy_14 (r3.2)
    else
      bd (f7_isEmpty x1 (r3.2)) fun r5 =>
      if (r5.1 : Int32) = 0 then
        bd (f7_isEmpty x3 (r5.2)) fun r7 =>
        if (r7.1 : Int32) = 0 then
          bd (f7_laneOf x1 (r7.2)) fun r9 =>
          bd (f7_laneOf x3 (r9.2)) fun r10 =>
          if (r9.1 : Int32) = (r10.1) then
            if (x5 : Int32) < 0 then
              f8_copy_109 (r10.2)
            else
              bd (f7_hasPart x1 x2 x5 (r10.2)) fun r13 =>
              if (r13.1 : Int32) = 0 then
                f8_copy_109 (r13.2)
              else
                bd (f7_hasPart x3 x4 x5 (r13.2)) fun r15 =>
                if (r15.1 : Int32) = 0 then
                  f8_copy_109 (r15.2)
                else
                  bd (f7_move x1 x2 x3 x4 x5 (r15.2)) fun r17 =>
                  bd (f8_told x5 r17) fun r18 =>
                  some (r18.1, r18.2)
          else
            bd (f8_told (-12) (r10.2)) fun r19 =>
            some (r19.1, r19.2)
        else
          f8_copy_42 (r7.2)
      else
        f8_copy_42 (r5.2)
set_option maxHeartbeats 4000000 in
set_option maxRecDepth 100000 in
theorem A8_copy_14 {l : Launch} (σ : HS) (r : Int32 × HS) (h : f8_copy_14 σ = some r) : AR l RX8 cX8_copy 6 (some .int) (wsU yX8_copy cX8_copy 6 (some .int)) rm8_copy SC 14 [(0, .ref 0)] [] σ (some (.int r.1), r.2) := by
  unfold f8_copy_14 at h
  refine AR.aload_n (pc := 14) (j := 0) dX8_copy_14 rfl rfl ?_
  refine AR.iconst (pc := 15) (v := (-1)) dX8_copy_15 (by decide) ?_
  obtain ⟨r1, h1, h⟩ := bd_some h
  refine AR.callV (pc := 16) (As := [.int (-1)]) (st := []) (ci := 8) dX8_copy_16 ⟨cd_X8_told, im_X8_told, se_X8_told, ini_X8⟩ ml_X8_109 (A8_told (-1) σ _ h1) ⟨rfl, pd_X8_told⟩ ⟨Nat.le_of_ble_eq_true rfl, Nat.le_of_ble_eq_true rfl⟩ ⟨rfl, rfl⟩ rfl rfl rfl (Nat.le_of_ble_eq_true rfl) ?_
  exact AR.iret (pc := 19) rfl dX8_copy_19 (hrI (Option.some.inj h))
set_option maxHeartbeats 4000000 in
set_option maxRecDepth 100000 in
theorem A8_copy_42 {l : Launch} (σ : HS) (r : Int32 × HS) (h : f8_copy_42 σ = some r) : AR l RX8 cX8_copy 6 (some .int) (wsU yX8_copy cX8_copy 6 (some .int)) rm8_copy SC 42 [(0, .ref 0)] [] σ (some (.int r.1), r.2) := by
  unfold f8_copy_42 at h
  refine AR.aload_n (pc := 42) (j := 0) dX8_copy_42 rfl rfl ?_
  refine AR.bipush (pc := 43) (v := (-11)) dX8_copy_43 (by decide) ?_
  obtain ⟨r1, h1, h⟩ := bd_some h
  refine AR.callV (pc := 45) (As := [.int (-11)]) (st := []) (ci := 8) dX8_copy_45 ⟨cd_X8_told, im_X8_told, se_X8_told, ini_X8⟩ ml_X8_109 (A8_told (-11) σ _ h1) ⟨rfl, pd_X8_told⟩ ⟨Nat.le_of_ble_eq_true rfl, Nat.le_of_ble_eq_true rfl⟩ ⟨rfl, rfl⟩ rfl rfl rfl (Nat.le_of_ble_eq_true rfl) ?_
  exact AR.iret (pc := 48) rfl dX8_copy_48 (hrI (Option.some.inj h))
set_option maxHeartbeats 4000000 in
set_option maxRecDepth 100000 in
theorem A8_copy_109 {l : Launch} (σ : HS) (r : Int32 × HS) (h : f8_copy_109 σ = some r) : AR l RX8 cX8_copy 6 (some .int) (wsU yX8_copy cX8_copy 6 (some .int)) rm8_copy SC 109 [(0, .ref 0)] [] σ (some (.int r.1), r.2) := by
  unfold f8_copy_109 at h
  refine AR.aload_n (pc := 109) (j := 0) dX8_copy_109 rfl rfl ?_
  refine AR.bipush (pc := 110) (v := (-13)) dX8_copy_110 (by decide) ?_
  obtain ⟨r1, h1, h⟩ := bd_some h
  refine AR.callV (pc := 112) (As := [.int (-13)]) (st := []) (ci := 8) dX8_copy_112 ⟨cd_X8_told, im_X8_told, se_X8_told, ini_X8⟩ ml_X8_109 (A8_told (-13) σ _ h1) ⟨rfl, pd_X8_told⟩ ⟨Nat.le_of_ble_eq_true rfl, Nat.le_of_ble_eq_true rfl⟩ ⟨rfl, rfl⟩ rfl rfl rfl (Nat.le_of_ble_eq_true rfl) ?_
  exact AR.iret (pc := 115) rfl dX8_copy_115 (hrI (Option.some.inj h))
set_option maxHeartbeats 4000000 in
set_option maxRecDepth 100000 in
theorem A8_copy {l : Launch} (x1 : Int32) (x2 : Int32) (x3 : Int32) (x4 : Int32) (x5 : Int32) (σ : HS) (r : Int32 × HS) (h : f8_copy x1 x2 x3 x4 x5 σ = some r) : MA l yX8_copy (wsU yX8_copy cX8_copy 6 (some .int)) rm8_copy SC [.ref 0, .int x1, .int x2, .int x3, .int x4, .int x5] σ (some (.int r.1), r.2) := by
  refine MA.of (L := [(0, .ref 0), (1, .int x1), (2, .int x2), (3, .int x3), (4, .int x4), (5, .int x5)]) pn_X8_copy rfl (fun _ => Nat.le_of_ble_eq_true rfl) (fun _ => rfl) ?_
  unfold f8_copy at h
  refine AR.iload_n (pc := 0) (j := 1) dX8_copy_0 rfl rfl ?_
  obtain ⟨r1, h1, h⟩ := bd_some h
  refine AR.callSN (pc := 1) (As := [.int x1]) (st := []) dX8_copy_1 ⟨cd_X7_isSheet, sm_X7_isSheet, ini_X7⟩ mn_X8_299 (A7_isSheet x1 σ _ h1) pd_X7_isSheet ⟨Nat.le_of_ble_eq_true rfl, Nat.le_of_ble_eq_true rfl⟩ ⟨rfl, rfl⟩ rfl (Nat.le_of_ble_eq_true rfl) ?_
  refine AR.if_eq (pc := 4) (tgt := 14) dX8_copy_4 (by decide) (fun c2 => ?_) (fun c2 => ?_)
  · replace h := ite_t c2 h
    exact AR.pick [0] rfl (A8_copy_14 (r1.2) r h)
  · replace h := ite_f c2 h
    refine AR.iload_n (pc := 7) (j := 3) dX8_copy_7 rfl rfl ?_
    obtain ⟨r3, h3, h⟩ := bd_some h
    refine AR.callSN (pc := 8) (As := [.int x3]) (st := []) dX8_copy_8 ⟨cd_X7_isSheet, sm_X7_isSheet, ini_X7⟩ mn_X8_299 (A7_isSheet x3 (r1.2) _ h3) pd_X7_isSheet ⟨Nat.le_of_ble_eq_true rfl, Nat.le_of_ble_eq_true rfl⟩ ⟨rfl, rfl⟩ rfl (Nat.le_of_ble_eq_true rfl) ?_
    refine AR.if_ne (pc := 11) (tgt := 20) dX8_copy_11 (by decide) (fun c4 => ?_) (fun c4 => ?_)
    · replace h := ite_f c4 h
      refine AR.aload_n (pc := 20) (j := 0) dX8_copy_20 rfl rfl ?_
      refine AR.getf (pc := 21) (ci := 8) (j := 0) (d := 1 + 2) (v := .ref 1) (T := TX8) dX8_copy_21 rfl rfl rfl (by decide) (fun w hw => wsU_in (uw_X8 w hw)) (wsU_in fl_X8_25) rfl ?_
      refine AR.iload_n (pc := 24) (j := 1) dX8_copy_24 rfl rfl ?_
      obtain ⟨r5, h5, h⟩ := bd_some h
      refine AR.callVN (pc := 25) (As := [.int x1]) (st := []) (ci := 7) dX8_copy_25 ⟨cd_X7_isEmpty, im_X7_isEmpty, se_X7_isEmpty, ini_X7⟩ mn_X8_312 (A7_isEmpty x1 (r3.2) _ h5) ⟨rfl, pd_X7_isEmpty⟩ ⟨Nat.le_of_ble_eq_true rfl, Nat.le_of_ble_eq_true rfl⟩ ⟨rfl, rfl⟩ rfl rfl rfl (Nat.le_of_ble_eq_true rfl) ?_
      refine AR.if_ne (pc := 28) (tgt := 42) dX8_copy_28 (by decide) (fun c6 => ?_) (fun c6 => ?_)
      · replace h := ite_f c6 h
        exact AR.pick [0] rfl (A8_copy_42 (r5.2) r h)
      · replace h := ite_t c6 h
        refine AR.aload_n (pc := 31) (j := 0) dX8_copy_31 rfl rfl ?_
        refine AR.getf (pc := 32) (ci := 8) (j := 0) (d := 1 + 2) (v := .ref 1) (T := TX8) dX8_copy_32 rfl rfl rfl (by decide) (fun w hw => wsU_in (uw_X8 w hw)) (wsU_in fl_X8_25) rfl ?_
        refine AR.iload_n (pc := 35) (j := 3) dX8_copy_35 rfl rfl ?_
        obtain ⟨r7, h7, h⟩ := bd_some h
        refine AR.callVN (pc := 36) (As := [.int x3]) (st := []) (ci := 7) dX8_copy_36 ⟨cd_X7_isEmpty, im_X7_isEmpty, se_X7_isEmpty, ini_X7⟩ mn_X8_312 (A7_isEmpty x3 (r5.2) _ h7) ⟨rfl, pd_X7_isEmpty⟩ ⟨Nat.le_of_ble_eq_true rfl, Nat.le_of_ble_eq_true rfl⟩ ⟨rfl, rfl⟩ rfl rfl rfl (Nat.le_of_ble_eq_true rfl) ?_
        refine AR.if_eq (pc := 39) (tgt := 49) dX8_copy_39 (by decide) (fun c8 => ?_) (fun c8 => ?_)
        · replace h := ite_t c8 h
          refine AR.aload_n (pc := 49) (j := 0) dX8_copy_49 rfl rfl ?_
          refine AR.getf (pc := 50) (ci := 8) (j := 0) (d := 1 + 2) (v := .ref 1) (T := TX8) dX8_copy_50 rfl rfl rfl (by decide) (fun w hw => wsU_in (uw_X8 w hw)) (wsU_in fl_X8_25) rfl ?_
          refine AR.iload_n (pc := 53) (j := 1) dX8_copy_53 rfl rfl ?_
          obtain ⟨r9, h9, h⟩ := bd_some h
          refine AR.callVN (pc := 54) (As := [.int x1]) (st := []) (ci := 7) dX8_copy_54 ⟨cd_X7_laneOf, im_X7_laneOf, se_X7_laneOf, ini_X7⟩ mn_X8_324 (A7_laneOf x1 (r7.2) _ h9) ⟨rfl, pd_X7_laneOf⟩ ⟨Nat.le_of_ble_eq_true rfl, Nat.le_of_ble_eq_true rfl⟩ ⟨rfl, rfl⟩ rfl rfl rfl (Nat.le_of_ble_eq_true rfl) ?_
          refine AR.aload_n (pc := 57) (j := 0) dX8_copy_57 rfl rfl ?_
          refine AR.getf (pc := 58) (ci := 8) (j := 0) (d := 1 + 2) (v := .ref 1) (T := TX8) dX8_copy_58 rfl rfl rfl (by decide) (fun w hw => wsU_in (uw_X8 w hw)) (wsU_in fl_X8_25) rfl ?_
          refine AR.iload_n (pc := 61) (j := 3) dX8_copy_61 rfl rfl ?_
          obtain ⟨r10, h10, h⟩ := bd_some h
          refine AR.callVN (pc := 62) (As := [.int x3]) (st := [.int (r9.1)]) (ci := 7) dX8_copy_62 ⟨cd_X7_laneOf, im_X7_laneOf, se_X7_laneOf, ini_X7⟩ mn_X8_324 (A7_laneOf x3 (r9.2) _ h10) ⟨rfl, pd_X7_laneOf⟩ ⟨Nat.le_of_ble_eq_true rfl, Nat.le_of_ble_eq_true rfl⟩ ⟨rfl, rfl⟩ rfl rfl rfl (Nat.le_of_ble_eq_true rfl) ?_
          refine AR.icmp_eq (pc := 65) (tgt := 75) dX8_copy_65 (by decide) (fun c11 => ?_) (fun c11 => ?_)
          · replace h := ite_t c11 h
            refine AR.iload (pc := 75) (j := 5) dX8_copy_75 rfl ?_
            refine AR.if_lt (pc := 77) (tgt := 109) dX8_copy_77 (by decide) (fun c12 => ?_) (fun c12 => ?_)
            · replace h := ite_t c12 h
              exact AR.pick [0] rfl (A8_copy_109 (r10.2) r h)
            · replace h := ite_f c12 h
              refine AR.aload_n (pc := 80) (j := 0) dX8_copy_80 rfl rfl ?_
              refine AR.getf (pc := 81) (ci := 8) (j := 0) (d := 1 + 2) (v := .ref 1) (T := TX8) dX8_copy_81 rfl rfl rfl (by decide) (fun w hw => wsU_in (uw_X8 w hw)) (wsU_in fl_X8_25) rfl ?_
              refine AR.iload_n (pc := 84) (j := 1) dX8_copy_84 rfl rfl ?_
              refine AR.iload_n (pc := 85) (j := 2) dX8_copy_85 rfl rfl ?_
              refine AR.iload (pc := 86) (j := 5) dX8_copy_86 rfl ?_
              obtain ⟨r13, h13, h⟩ := bd_some h
              refine AR.callVN (pc := 88) (As := [.int x1, .int x2, .int x5]) (st := []) (ci := 7) dX8_copy_88 ⟨cd_X7_hasPart, im_X7_hasPart, se_X7_hasPart, ini_X7⟩ mn_X8_327 (A7_hasPart x1 x2 x5 (r10.2) _ h13) ⟨rfl, pd_X7_hasPart⟩ ⟨Nat.le_of_ble_eq_true rfl, Nat.le_of_ble_eq_true rfl⟩ ⟨rfl, rfl⟩ rfl rfl rfl (Nat.le_of_ble_eq_true rfl) ?_
              refine AR.if_eq (pc := 91) (tgt := 109) dX8_copy_91 (by decide) (fun c14 => ?_) (fun c14 => ?_)
              · replace h := ite_t c14 h
                exact AR.pick [0] rfl (A8_copy_109 (r13.2) r h)
              · replace h := ite_f c14 h
                refine AR.aload_n (pc := 94) (j := 0) dX8_copy_94 rfl rfl ?_
                refine AR.getf (pc := 95) (ci := 8) (j := 0) (d := 1 + 2) (v := .ref 1) (T := TX8) dX8_copy_95 rfl rfl rfl (by decide) (fun w hw => wsU_in (uw_X8 w hw)) (wsU_in fl_X8_25) rfl ?_
                refine AR.iload_n (pc := 98) (j := 3) dX8_copy_98 rfl rfl ?_
                refine AR.iload (pc := 99) (j := 4) dX8_copy_99 rfl ?_
                refine AR.iload (pc := 101) (j := 5) dX8_copy_101 rfl ?_
                obtain ⟨r15, h15, h⟩ := bd_some h
                refine AR.callVN (pc := 103) (As := [.int x3, .int x4, .int x5]) (st := []) (ci := 7) dX8_copy_103 ⟨cd_X7_hasPart, im_X7_hasPart, se_X7_hasPart, ini_X7⟩ mn_X8_327 (A7_hasPart x3 x4 x5 (r13.2) _ h15) ⟨rfl, pd_X7_hasPart⟩ ⟨Nat.le_of_ble_eq_true rfl, Nat.le_of_ble_eq_true rfl⟩ ⟨rfl, rfl⟩ rfl rfl rfl (Nat.le_of_ble_eq_true rfl) ?_
                refine AR.if_ne (pc := 106) (tgt := 116) dX8_copy_106 (by decide) (fun c16 => ?_) (fun c16 => ?_)
                · replace h := ite_f c16 h
                  refine AR.aload_n (pc := 116) (j := 0) dX8_copy_116 rfl rfl ?_
                  refine AR.getf (pc := 117) (ci := 8) (j := 0) (d := 1 + 2) (v := .ref 1) (T := TX8) dX8_copy_117 rfl rfl rfl (by decide) (fun w hw => wsU_in (uw_X8 w hw)) (wsU_in fl_X8_25) rfl ?_
                  refine AR.iload_n (pc := 120) (j := 1) dX8_copy_120 rfl rfl ?_
                  refine AR.iload_n (pc := 121) (j := 2) dX8_copy_121 rfl rfl ?_
                  refine AR.iload_n (pc := 122) (j := 3) dX8_copy_122 rfl rfl ?_
                  refine AR.iload (pc := 123) (j := 4) dX8_copy_123 rfl ?_
                  refine AR.iload (pc := 125) (j := 5) dX8_copy_125 rfl ?_
                  obtain ⟨r17, h17, h⟩ := bd_some h
                  refine AR.callVN (pc := 127) (As := [.int x1, .int x2, .int x3, .int x4, .int x5]) (st := []) (ci := 7) dX8_copy_127 ⟨cd_X7_move, im_X7_move, se_X7_move, ini_X7⟩ mn_X8_330 (A7_move x1 x2 x3 x4 x5 (r15.2) _ h17) ⟨rfl, pd_X7_move⟩ ⟨Nat.le_of_ble_eq_true rfl, Nat.le_of_ble_eq_true rfl⟩ ⟨rfl, rfl⟩ rfl rfl rfl (Nat.le_of_ble_eq_true rfl) ?_
                  refine AR.aload_n (pc := 130) (j := 0) dX8_copy_130 rfl rfl ?_
                  refine AR.iload (pc := 131) (j := 5) dX8_copy_131 rfl ?_
                  obtain ⟨r18, h18, h⟩ := bd_some h
                  refine AR.callV (pc := 133) (As := [.int x5]) (st := []) (ci := 8) dX8_copy_133 ⟨cd_X8_told, im_X8_told, se_X8_told, ini_X8⟩ ml_X8_109 (A8_told x5 r17 _ h18) ⟨rfl, pd_X8_told⟩ ⟨Nat.le_of_ble_eq_true rfl, Nat.le_of_ble_eq_true rfl⟩ ⟨rfl, rfl⟩ rfl rfl rfl (Nat.le_of_ble_eq_true rfl) ?_
                  exact AR.iret (pc := 136) rfl dX8_copy_136 (hrI (Option.some.inj h))
                · replace h := ite_t c16 h
                  exact AR.pick [0] rfl (A8_copy_109 (r15.2) r h)
          · replace h := ite_f c11 h
            refine AR.aload_n (pc := 68) (j := 0) dX8_copy_68 rfl rfl ?_
            refine AR.bipush (pc := 69) (v := (-12)) dX8_copy_69 (by decide) ?_
            obtain ⟨r19, h19, h⟩ := bd_some h
            refine AR.callV (pc := 71) (As := [.int (-12)]) (st := []) (ci := 8) dX8_copy_71 ⟨cd_X8_told, im_X8_told, se_X8_told, ini_X8⟩ ml_X8_109 (A8_told (-12) (r10.2) _ h19) ⟨rfl, pd_X8_told⟩ ⟨Nat.le_of_ble_eq_true rfl, Nat.le_of_ble_eq_true rfl⟩ ⟨rfl, rfl⟩ rfl rfl rfl (Nat.le_of_ble_eq_true rfl) ?_
            exact AR.iret (pc := 74) rfl dX8_copy_74 (hrI (Option.some.inj h))
        · replace h := ite_f c8 h
          exact AR.pick [0] rfl (A8_copy_42 (r7.2) r h)
    · replace h := ite_t c4 h
      exact AR.pick [0] rfl (A8_copy_14 (r3.2) r h)
noncomputable def f8_leaveTrace (x1 : Int32) (σ : HS) : Option (HS) :=
  some (uI σ 0 12 ((31 * (σ.1 0 12)) + x1))
set_option maxHeartbeats 4000000 in
set_option maxRecDepth 100000 in
theorem A8_leaveTrace {l : Launch} (x1 : Int32) (σ : HS) (r : HS) (h : f8_leaveTrace x1 σ = some r) : MA l yX8_leaveTrace (wsU yX8_leaveTrace cX8_leaveTrace 2 none) rm8_leaveTrace SC [.ref 0, .int x1] σ (none, r) := by
  refine MA.of (L := [(0, .ref 0), (1, .int x1)]) pn_X8_leaveTrace rfl (fun _ => Nat.le_of_ble_eq_true rfl) (fun _ => rfl) ?_
  unfold f8_leaveTrace at h
  refine AR.aload_n (pc := 0) (j := 0) dX8_leaveTrace_0 rfl rfl ?_
  refine AR.bipush (pc := 1) (v := 31) dX8_leaveTrace_1 (by decide) ?_
  refine AR.aload_n (pc := 3) (j := 0) dX8_leaveTrace_3 rfl rfl ?_
  refine AR.getf (pc := 4) (ci := 8) (j := 12) (d := 0) (v := .int (σ.1 0 12)) (T := TX8) dX8_leaveTrace_4 rfl rfl rfl (by decide) (fun w hw => wsU_in (uw_X8 w hw)) (wsU_in fl_X8_15) rfl ?_
  refine AR.imul (pc := 7) dX8_leaveTrace_7 ?_
  refine AR.iload_n (pc := 8) (j := 1) dX8_leaveTrace_8 rfl rfl ?_
  refine AR.iadd (pc := 9) dX8_leaveTrace_9 ?_
  refine AR.putI (pc := 10) (ci := 8) (j := 12) (T := TX8) (ty0 := tyX8) (ty := .int) dX8_leaveTrace_10 rfl rfl rfl (by decide) (fun w hw => wsU_in (uw_X8 w hw)) tyX8_ok nmX8 (wsU_in fl_X8_15) rfl (by decide +kernel) rfl rfl ?_
  exact AR.vret (pc := 13) rfl dX8_leaveTrace_13 (hrV (Option.some.inj h))
noncomputable def f8_tellPlain (x1 : Int32) (σ : HS) : Option (Int32 × HS) :=
  bd (f8_leaveTrace 1 σ) fun r1 =>
  bd (f4_wordsOf 5 x1 r1) fun r2 =>
  some (r2.1, r2.2)
set_option maxHeartbeats 4000000 in
set_option maxRecDepth 100000 in
theorem A8_tellPlain {l : Launch} (x1 : Int32) (σ : HS) (r : Int32 × HS) (h : f8_tellPlain x1 σ = some r) : MA l yX8_tellPlain (wsU yX8_tellPlain cX8_tellPlain 2 (some .int)) rm8_tellPlain SC [.ref 0, .int x1] σ (some (.int r.1), r.2) := by
  refine MA.of (L := [(0, .ref 0), (1, .int x1)]) pn_X8_tellPlain rfl (fun _ => Nat.le_of_ble_eq_true rfl) (fun _ => rfl) ?_
  unfold f8_tellPlain at h
  refine AR.aload_n (pc := 0) (j := 0) dX8_tellPlain_0 rfl rfl ?_
  refine AR.iconst (pc := 1) (v := 1) dX8_tellPlain_1 (by decide) ?_
  obtain ⟨r1, h1, h⟩ := bd_some h
  refine AR.callV (pc := 2) (As := [.int 1]) (st := []) (ci := 8) dX8_tellPlain_2 ⟨cd_X8_leaveTrace, im_X8_leaveTrace, se_X8_leaveTrace, ini_X8⟩ ml_X8_343 (A8_leaveTrace 1 σ _ h1) ⟨rfl, pd_X8_leaveTrace⟩ ⟨Nat.le_of_ble_eq_true rfl, Nat.le_of_ble_eq_true rfl⟩ ⟨rfl, rfl⟩ rfl rfl rfl (Nat.le_of_ble_eq_true rfl) ?_
  refine AR.aload_n (pc := 5) (j := 0) dX8_tellPlain_5 rfl rfl ?_
  refine AR.getf (pc := 6) (ci := 8) (j := 1) (d := 5 + 2) (v := .ref 5) (T := TX8) dX8_tellPlain_6 rfl rfl rfl (by decide) (fun w hw => wsU_in (uw_X8 w hw)) (wsU_in fl_X8_32) rfl ?_
  refine AR.iload_n (pc := 9) (j := 1) dX8_tellPlain_9 rfl rfl ?_
  obtain ⟨r2, h2, h⟩ := bd_some h
  refine AR.callVN (pc := 10) (As := [.int x1]) (st := []) (ci := 4) dX8_tellPlain_10 ⟨cd_X4_wordsOf, im_X4_wordsOf, se_X4_wordsOf, ini_X4⟩ mn_X8_142 (A4_wordsOf 5 ppl5 x1 r1 _ h2) ⟨rfl, pd_X4_wordsOf⟩ ⟨Nat.le_of_ble_eq_true rfl, Nat.le_of_ble_eq_true rfl⟩ ⟨rfl, rfl⟩ rfl rfl rfl (Nat.le_of_ble_eq_true rfl) ?_
  exact AR.iret (pc := 13) rfl dX8_tellPlain_13 (hrI (Option.some.inj h))
noncomputable def f8_tellThrifty (x1 : Int32) (σ : HS) : Option (Int32 × HS) :=
  bd (f8_leaveTrace 2 σ) fun r1 =>
  bd (f8_tellPlain x1 r1) fun r2 =>
  some (((r2.1) + 100), r2.2)
set_option maxHeartbeats 4000000 in
set_option maxRecDepth 100000 in
theorem A8_tellThrifty {l : Launch} (x1 : Int32) (σ : HS) (r : Int32 × HS) (h : f8_tellThrifty x1 σ = some r) : MA l yX8_tellThrifty (wsU yX8_tellThrifty cX8_tellThrifty 2 (some .int)) rm8_tellThrifty SC [.ref 0, .int x1] σ (some (.int r.1), r.2) := by
  refine MA.of (L := [(0, .ref 0), (1, .int x1)]) pn_X8_tellThrifty rfl (fun _ => Nat.le_of_ble_eq_true rfl) (fun _ => rfl) ?_
  unfold f8_tellThrifty at h
  refine AR.aload_n (pc := 0) (j := 0) dX8_tellThrifty_0 rfl rfl ?_
  refine AR.iconst (pc := 1) (v := 2) dX8_tellThrifty_1 (by decide) ?_
  obtain ⟨r1, h1, h⟩ := bd_some h
  refine AR.callV (pc := 2) (As := [.int 2]) (st := []) (ci := 8) dX8_tellThrifty_2 ⟨cd_X8_leaveTrace, im_X8_leaveTrace, se_X8_leaveTrace, ini_X8⟩ ml_X8_343 (A8_leaveTrace 2 σ _ h1) ⟨rfl, pd_X8_leaveTrace⟩ ⟨Nat.le_of_ble_eq_true rfl, Nat.le_of_ble_eq_true rfl⟩ ⟨rfl, rfl⟩ rfl rfl rfl (Nat.le_of_ble_eq_true rfl) ?_
  refine AR.aload_n (pc := 5) (j := 0) dX8_tellThrifty_5 rfl rfl ?_
  refine AR.iload_n (pc := 6) (j := 1) dX8_tellThrifty_6 rfl rfl ?_
  obtain ⟨r2, h2, h⟩ := bd_some h
  refine AR.callV (pc := 7) (As := [.int x1]) (st := []) (ci := 8) dX8_tellThrifty_7 ⟨cd_X8_tellPlain, im_X8_tellPlain, se_X8_tellPlain, ini_X8⟩ ml_X8_340 (A8_tellPlain x1 r1 _ h2) ⟨rfl, pd_X8_tellPlain⟩ ⟨Nat.le_of_ble_eq_true rfl, Nat.le_of_ble_eq_true rfl⟩ ⟨rfl, rfl⟩ rfl rfl rfl (Nat.le_of_ble_eq_true rfl) ?_
  refine AR.bipush (pc := 10) (v := 100) dX8_tellThrifty_10 (by decide) ?_
  refine AR.iadd (pc := 12) dX8_tellThrifty_12 ?_
  exact AR.iret (pc := 13) rfl dX8_tellThrifty_13 (hrI (Option.some.inj h))
noncomputable def f8_tellOld (x1 : Int32) (σ : HS) : Option (Int32 × HS) :=
  bd (f8_leaveTrace 3 σ) fun r1 =>
  bd (f8_tellThrifty x1 r1) fun r2 =>
  bd (f8_tellPlain x1 (r2.2)) fun r3 =>
  some (((r2.1) + (r3.1)), r3.2)
set_option maxHeartbeats 4000000 in
set_option maxRecDepth 100000 in
theorem A8_tellOld {l : Launch} (x1 : Int32) (σ : HS) (r : Int32 × HS) (h : f8_tellOld x1 σ = some r) : MA l yX8_tellOld (wsU yX8_tellOld cX8_tellOld 3 (some .int)) rm8_tellOld SC [.ref 0, .int x1] σ (some (.int r.1), r.2) := by
  refine MA.of (L := [(0, .ref 0), (1, .int x1)]) pn_X8_tellOld rfl (fun _ => Nat.le_of_ble_eq_true rfl) (fun _ => rfl) ?_
  unfold f8_tellOld at h
  refine AR.aload_n (pc := 0) (j := 0) dX8_tellOld_0 rfl rfl ?_
  refine AR.iconst (pc := 1) (v := 3) dX8_tellOld_1 (by decide) ?_
  obtain ⟨r1, h1, h⟩ := bd_some h
  refine AR.callV (pc := 2) (As := [.int 3]) (st := []) (ci := 8) dX8_tellOld_2 ⟨cd_X8_leaveTrace, im_X8_leaveTrace, se_X8_leaveTrace, ini_X8⟩ ml_X8_343 (A8_leaveTrace 3 σ _ h1) ⟨rfl, pd_X8_leaveTrace⟩ ⟨Nat.le_of_ble_eq_true rfl, Nat.le_of_ble_eq_true rfl⟩ ⟨rfl, rfl⟩ rfl rfl rfl (Nat.le_of_ble_eq_true rfl) ?_
  refine AR.aload_n (pc := 5) (j := 0) dX8_tellOld_5 rfl rfl ?_
  refine AR.iload_n (pc := 6) (j := 1) dX8_tellOld_6 rfl rfl ?_
  obtain ⟨r2, h2, h⟩ := bd_some h
  refine AR.callV (pc := 7) (As := [.int x1]) (st := []) (ci := 8) dX8_tellOld_7 ⟨cd_X8_tellThrifty, im_X8_tellThrifty, se_X8_tellThrifty, ini_X8⟩ ml_X8_337 (A8_tellThrifty x1 r1 _ h2) ⟨rfl, pd_X8_tellThrifty⟩ ⟨Nat.le_of_ble_eq_true rfl, Nat.le_of_ble_eq_true rfl⟩ ⟨rfl, rfl⟩ rfl rfl rfl (Nat.le_of_ble_eq_true rfl) ?_
  refine AR.istore_n (pc := 10) (L2 := [(2, .int (r2.1)), (0, .ref 0), (1, .int x1)]) dX8_tellOld_10 rfl (by decide) rfl ?_
  refine AR.iload_n (pc := 11) (j := 0) dX8_tellOld_11 rfl rfl ?_
  refine AR.aload_n (pc := 12) (j := 1) dX8_tellOld_12 rfl rfl ?_
  refine AR.iload_n (pc := 13) (j := 2) dX8_tellOld_13 rfl rfl ?_
  obtain ⟨r3, h3, h⟩ := bd_some h
  refine AR.callV (pc := 14) (As := [.int x1]) (st := [.int (r2.1)]) (ci := 8) dX8_tellOld_14 ⟨cd_X8_tellPlain, im_X8_tellPlain, se_X8_tellPlain, ini_X8⟩ ml_X8_340 (A8_tellPlain x1 (r2.2) _ h3) ⟨rfl, pd_X8_tellPlain⟩ ⟨Nat.le_of_ble_eq_true rfl, Nat.le_of_ble_eq_true rfl⟩ ⟨rfl, rfl⟩ rfl rfl rfl (Nat.le_of_ble_eq_true rfl) ?_
  refine AR.iadd (pc := 17) dX8_tellOld_17 ?_
  exact AR.iret (pc := 18) rfl dX8_tellOld_18 (hrI (Option.some.inj h))
noncomputable def f8_tell (x1 : Int32) (σ : HS) : Option (Int32 × HS) :=
  bd (f4_has x1 σ) fun r1 =>
  if (r1.1 : Int32) = 0 then
    some ((-1), r1.2)
  else
    bd (f4_kindOf 5 x1 (r1.2)) fun r3 =>
    if (r3.1 : Int32) = 1 then
      bd (f8_tellThrifty x1 (r3.2)) fun r5 =>
      some (r5.1, r5.2)
    else
      if (r3.1 : Int32) = 2 then
        bd (f8_tellOld x1 (r3.2)) fun r7 =>
        some (r7.1, r7.2)
      else
        bd (f8_tellPlain x1 (r3.2)) fun r8 =>
        some (r8.1, r8.2)
set_option maxHeartbeats 4000000 in
set_option maxRecDepth 100000 in
theorem A8_tell {l : Launch} (x1 : Int32) (σ : HS) (r : Int32 × HS) (h : f8_tell x1 σ = some r) : MA l yX8_tell (wsU yX8_tell cX8_tell 2 (some .int)) rm8_tell SC [.ref 0, .int x1] σ (some (.int r.1), r.2) := by
  refine MA.of (L := [(0, .ref 0), (1, .int x1)]) pn_X8_tell rfl (fun _ => Nat.le_of_ble_eq_true rfl) (fun _ => rfl) ?_
  unfold f8_tell at h
  refine AR.aload_n (pc := 0) (j := 0) dX8_tell_0 rfl rfl ?_
  refine AR.getf (pc := 1) (ci := 8) (j := 1) (d := 5 + 2) (v := .ref 5) (T := TX8) dX8_tell_1 rfl rfl rfl (by decide) (fun w hw => wsU_in (uw_X8 w hw)) (wsU_in fl_X8_32) rfl ?_
  refine AR.iload_n (pc := 4) (j := 1) dX8_tell_4 rfl rfl ?_
  obtain ⟨r1, h1, h⟩ := bd_some h
  refine AR.callVN (pc := 5) (As := [.int x1]) (st := []) (ci := 4) dX8_tell_5 ⟨cd_X4_has, im_X4_has, se_X4_has, ini_X4⟩ mn_X8_135 (A4_has x1 σ _ h1) ⟨rfl, pd_X4_has⟩ ⟨Nat.le_of_ble_eq_true rfl, Nat.le_of_ble_eq_true rfl⟩ ⟨rfl, rfl⟩ rfl rfl rfl (Nat.le_of_ble_eq_true rfl) ?_
  refine AR.if_ne (pc := 8) (tgt := 13) dX8_tell_8 (by decide) (fun c2 => ?_) (fun c2 => ?_)
  · replace h := ite_f c2 h
    refine AR.aload_n (pc := 13) (j := 0) dX8_tell_13 rfl rfl ?_
    refine AR.getf (pc := 14) (ci := 8) (j := 1) (d := 5 + 2) (v := .ref 5) (T := TX8) dX8_tell_14 rfl rfl rfl (by decide) (fun w hw => wsU_in (uw_X8 w hw)) (wsU_in fl_X8_32) rfl ?_
    refine AR.iload_n (pc := 17) (j := 1) dX8_tell_17 rfl rfl ?_
    obtain ⟨r3, h3, h⟩ := bd_some h
    refine AR.callVN (pc := 18) (As := [.int x1]) (st := []) (ci := 4) dX8_tell_18 ⟨cd_X4_kindOf, im_X4_kindOf, se_X4_kindOf, ini_X4⟩ mn_X8_139 (A4_kindOf 5 ppl5 x1 (r1.2) _ h3) ⟨rfl, pd_X4_kindOf⟩ ⟨Nat.le_of_ble_eq_true rfl, Nat.le_of_ble_eq_true rfl⟩ ⟨rfl, rfl⟩ rfl rfl rfl (Nat.le_of_ble_eq_true rfl) ?_
    by_cases c4 : (r3.1 : Int32) = 1
    · replace h := ite_t c4 h
      refine AR.lookup (pc := 21) (off := 33) (tgt := 54) dX8_tell_21 (by decide) (by rw [c4]; decide) (by decide) ?_
      refine AR.aload_n (pc := 54) (j := 0) dX8_tell_54 rfl rfl ?_
      refine AR.iload_n (pc := 55) (j := 1) dX8_tell_55 rfl rfl ?_
      obtain ⟨r5, h5, h⟩ := bd_some h
      refine AR.callV (pc := 56) (As := [.int x1]) (st := []) (ci := 8) dX8_tell_56 ⟨cd_X8_tellThrifty, im_X8_tellThrifty, se_X8_tellThrifty, ini_X8⟩ ml_X8_337 (A8_tellThrifty x1 (r3.2) _ h5) ⟨rfl, pd_X8_tellThrifty⟩ ⟨Nat.le_of_ble_eq_true rfl, Nat.le_of_ble_eq_true rfl⟩ ⟨rfl, rfl⟩ rfl rfl rfl (Nat.le_of_ble_eq_true rfl) ?_
      exact AR.iret (pc := 59) rfl dX8_tell_59 (hrI (Option.some.inj h))
    · replace h := ite_f c4 h
      by_cases c6 : (r3.1 : Int32) = 2
      · replace h := ite_t c6 h
        refine AR.lookup (pc := 21) (off := 27) (tgt := 48) dX8_tell_21 (by decide) (by rw [c6]; decide) (by decide) ?_
        refine AR.aload_n (pc := 48) (j := 0) dX8_tell_48 rfl rfl ?_
        refine AR.iload_n (pc := 49) (j := 1) dX8_tell_49 rfl rfl ?_
        obtain ⟨r7, h7, h⟩ := bd_some h
        refine AR.callV (pc := 50) (As := [.int x1]) (st := []) (ci := 8) dX8_tell_50 ⟨cd_X8_tellOld, im_X8_tellOld, se_X8_tellOld, ini_X8⟩ ml_X8_334 (A8_tellOld x1 (r3.2) _ h7) ⟨rfl, pd_X8_tellOld⟩ ⟨Nat.le_of_ble_eq_true rfl, Nat.le_of_ble_eq_true rfl⟩ ⟨rfl, rfl⟩ rfl rfl rfl (Nat.le_of_ble_eq_true rfl) ?_
        exact AR.iret (pc := 53) rfl dX8_tell_53 (hrI (Option.some.inj h))
      · replace h := ite_f c6 h
        refine AR.lookup (pc := 21) (off := 39) (tgt := 60) dX8_tell_21 (by decide) (by show Op.lookupswitch.offset [(1, 33), (2, 27)] 39 _ = _; rw [lv_osw c4 (by decide), lv_osw c6 (by decide)]; rfl) (by decide) ?_
        refine AR.aload_n (pc := 60) (j := 0) dX8_tell_60 rfl rfl ?_
        refine AR.iload_n (pc := 61) (j := 1) dX8_tell_61 rfl rfl ?_
        obtain ⟨r8, h8, h⟩ := bd_some h
        refine AR.callV (pc := 62) (As := [.int x1]) (st := []) (ci := 8) dX8_tell_62 ⟨cd_X8_tellPlain, im_X8_tellPlain, se_X8_tellPlain, ini_X8⟩ ml_X8_340 (A8_tellPlain x1 (r3.2) _ h8) ⟨rfl, pd_X8_tellPlain⟩ ⟨Nat.le_of_ble_eq_true rfl, Nat.le_of_ble_eq_true rfl⟩ ⟨rfl, rfl⟩ rfl rfl rfl (Nat.le_of_ble_eq_true rfl) ?_
        exact AR.iret (pc := 65) rfl dX8_tell_65 (hrI (Option.some.inj h))
  · replace h := ite_t c2 h
    refine AR.iconst (pc := 11) (v := (-1)) dX8_tell_11 (by decide) ?_
    exact AR.iret (pc := 12) rfl dX8_tell_12 (hrI (Option.some.inj h))
noncomputable def f8_call (x1 : Int32) (σ : HS) : Option (Int32 × HS) :=
  bd (f4_has x1 σ) fun r1 =>
  if (r1.1 : Int32) = 0 then
    some ((-1), r1.2)
  else
    bd (f4_kindOf 5 x1 (r1.2)) fun r3 =>
    if (r3.1 : Int32) = 2 then
      bd (f8_leaveTrace 5 (r3.2)) fun r6 =>
      some (90, r6)
    else
      bd (f8_leaveTrace 4 (r3.2)) fun r5 =>
      some (x1, r5)
set_option maxHeartbeats 4000000 in
set_option maxRecDepth 100000 in
theorem A8_call {l : Launch} (x1 : Int32) (σ : HS) (r : Int32 × HS) (h : f8_call x1 σ = some r) : MA l yX8_call (wsU yX8_call cX8_call 2 (some .int)) rm8_call SC [.ref 0, .int x1] σ (some (.int r.1), r.2) := by
  refine MA.of (L := [(0, .ref 0), (1, .int x1)]) pn_X8_call rfl (fun _ => Nat.le_of_ble_eq_true rfl) (fun _ => rfl) ?_
  unfold f8_call at h
  refine AR.aload_n (pc := 0) (j := 0) dX8_call_0 rfl rfl ?_
  refine AR.getf (pc := 1) (ci := 8) (j := 1) (d := 5 + 2) (v := .ref 5) (T := TX8) dX8_call_1 rfl rfl rfl (by decide) (fun w hw => wsU_in (uw_X8 w hw)) (wsU_in fl_X8_32) rfl ?_
  refine AR.iload_n (pc := 4) (j := 1) dX8_call_4 rfl rfl ?_
  obtain ⟨r1, h1, h⟩ := bd_some h
  refine AR.callVN (pc := 5) (As := [.int x1]) (st := []) (ci := 4) dX8_call_5 ⟨cd_X4_has, im_X4_has, se_X4_has, ini_X4⟩ mn_X8_135 (A4_has x1 σ _ h1) ⟨rfl, pd_X4_has⟩ ⟨Nat.le_of_ble_eq_true rfl, Nat.le_of_ble_eq_true rfl⟩ ⟨rfl, rfl⟩ rfl rfl rfl (Nat.le_of_ble_eq_true rfl) ?_
  refine AR.if_ne (pc := 8) (tgt := 13) dX8_call_8 (by decide) (fun c2 => ?_) (fun c2 => ?_)
  · replace h := ite_f c2 h
    refine AR.aload_n (pc := 13) (j := 0) dX8_call_13 rfl rfl ?_
    refine AR.getf (pc := 14) (ci := 8) (j := 1) (d := 5 + 2) (v := .ref 5) (T := TX8) dX8_call_14 rfl rfl rfl (by decide) (fun w hw => wsU_in (uw_X8 w hw)) (wsU_in fl_X8_32) rfl ?_
    refine AR.iload_n (pc := 17) (j := 1) dX8_call_17 rfl rfl ?_
    obtain ⟨r3, h3, h⟩ := bd_some h
    refine AR.callVN (pc := 18) (As := [.int x1]) (st := []) (ci := 4) dX8_call_18 ⟨cd_X4_kindOf, im_X4_kindOf, se_X4_kindOf, ini_X4⟩ mn_X8_139 (A4_kindOf 5 ppl5 x1 (r1.2) _ h3) ⟨rfl, pd_X4_kindOf⟩ ⟨Nat.le_of_ble_eq_true rfl, Nat.le_of_ble_eq_true rfl⟩ ⟨rfl, rfl⟩ rfl rfl rfl (Nat.le_of_ble_eq_true rfl) ?_
    refine AR.iconst (pc := 21) (v := 2) dX8_call_21 (by decide) ?_
    refine AR.icmp_ne (pc := 22) (tgt := 33) dX8_call_22 (by decide) (fun c4 => ?_) (fun c4 => ?_)
    · replace h := ite_f c4 h
      refine AR.aload_n (pc := 33) (j := 0) dX8_call_33 rfl rfl ?_
      refine AR.iconst (pc := 34) (v := 4) dX8_call_34 (by decide) ?_
      obtain ⟨r5, h5, h⟩ := bd_some h
      refine AR.callV (pc := 35) (As := [.int 4]) (st := []) (ci := 8) dX8_call_35 ⟨cd_X8_leaveTrace, im_X8_leaveTrace, se_X8_leaveTrace, ini_X8⟩ ml_X8_343 (A8_leaveTrace 4 (r3.2) _ h5) ⟨rfl, pd_X8_leaveTrace⟩ ⟨Nat.le_of_ble_eq_true rfl, Nat.le_of_ble_eq_true rfl⟩ ⟨rfl, rfl⟩ rfl rfl rfl (Nat.le_of_ble_eq_true rfl) ?_
      refine AR.iload_n (pc := 38) (j := 1) dX8_call_38 rfl rfl ?_
      exact AR.iret (pc := 39) rfl dX8_call_39 (hrI (Option.some.inj h))
    · replace h := ite_t c4 h
      refine AR.aload_n (pc := 25) (j := 0) dX8_call_25 rfl rfl ?_
      refine AR.iconst (pc := 26) (v := 5) dX8_call_26 (by decide) ?_
      obtain ⟨r6, h6, h⟩ := bd_some h
      refine AR.callV (pc := 27) (As := [.int 5]) (st := []) (ci := 8) dX8_call_27 ⟨cd_X8_leaveTrace, im_X8_leaveTrace, se_X8_leaveTrace, ini_X8⟩ ml_X8_343 (A8_leaveTrace 5 (r3.2) _ h6) ⟨rfl, pd_X8_leaveTrace⟩ ⟨Nat.le_of_ble_eq_true rfl, Nat.le_of_ble_eq_true rfl⟩ ⟨rfl, rfl⟩ rfl rfl rfl (Nat.le_of_ble_eq_true rfl) ?_
      refine AR.bipush (pc := 30) (v := 90) dX8_call_30 (by decide) ?_
      exact AR.iret (pc := 32) rfl dX8_call_32 (hrI (Option.some.inj h))
  · replace h := ite_t c2 h
    refine AR.iconst (pc := 11) (v := (-1)) dX8_call_11 (by decide) ?_
    exact AR.iret (pc := 12) rfl dX8_call_12 (hrI (Option.some.inj h))
noncomputable def f8_as_26 (σ : HS) : Option (Int32 × HS) :=
  bd (f8_told (-2) σ) fun r1 =>
  some (r1.1, r1.2)
noncomputable def f8_as_52 (z0 : Int32) (σ : HS) : Option (Int32 × HS) :=
  bd (f8_told z0 σ) fun r1 =>
  some (r1.1, r1.2)
noncomputable def f8_as (x1 : Int32) (x2 : Int32) (σ : HS) : Option (Int32 × HS) :=
  bd (f4_has x1 σ) fun r1 =>
  if (r1.1 : Int32) = 0 then
    bd (f8_told (-1) (r1.2)) fun r7 =>
    some (r7.1, r7.2)
  else
    if (x2 : Int32) < 0 then
      f8_as_26 (r1.2)
    else
      if (x2 : Int32) < 3 then
        bd (f4_kindOf 5 x1 (r1.2)) fun r5 =>
        if (r5.1 : Int32) < x2 then
          f8_as_52 (-12) (r5.2)
        else
          f8_as_52 1 (r5.2)
      else
        f8_as_26 (r1.2)
set_option maxHeartbeats 4000000 in
set_option maxRecDepth 100000 in
theorem A8_as_26 {l : Launch} (σ : HS) (r : Int32 × HS) (h : f8_as_26 σ = some r) : AR l RX8 cX8_as 3 (some .int) (wsU yX8_as cX8_as 3 (some .int)) rm8_as SC 26 [(0, .ref 0)] [] σ (some (.int r.1), r.2) := by
  unfold f8_as_26 at h
  refine AR.aload_n (pc := 26) (j := 0) dX8_as_26 rfl rfl ?_
  refine AR.bipush (pc := 27) (v := (-2)) dX8_as_27 (by decide) ?_
  obtain ⟨r1, h1, h⟩ := bd_some h
  refine AR.callV (pc := 29) (As := [.int (-2)]) (st := []) (ci := 8) dX8_as_29 ⟨cd_X8_told, im_X8_told, se_X8_told, ini_X8⟩ ml_X8_109 (A8_told (-2) σ _ h1) ⟨rfl, pd_X8_told⟩ ⟨Nat.le_of_ble_eq_true rfl, Nat.le_of_ble_eq_true rfl⟩ ⟨rfl, rfl⟩ rfl rfl rfl (Nat.le_of_ble_eq_true rfl) ?_
  exact AR.iret (pc := 32) rfl dX8_as_32 (hrI (Option.some.inj h))
set_option maxHeartbeats 4000000 in
set_option maxRecDepth 100000 in
theorem A8_as_52 {l : Launch} (z0 : Int32) (σ : HS) (r : Int32 × HS) (h : f8_as_52 z0 σ = some r) : AR l RX8 cX8_as 3 (some .int) (wsU yX8_as cX8_as 3 (some .int)) rm8_as SC 52 [] [.int z0, .ref 0] σ (some (.int r.1), r.2) := by
  unfold f8_as_52 at h
  obtain ⟨r1, h1, h⟩ := bd_some h
  refine AR.callV (pc := 52) (As := [.int z0]) (st := []) (ci := 8) dX8_as_52 ⟨cd_X8_told, im_X8_told, se_X8_told, ini_X8⟩ ml_X8_109 (A8_told z0 σ _ h1) ⟨rfl, pd_X8_told⟩ ⟨Nat.le_of_ble_eq_true rfl, Nat.le_of_ble_eq_true rfl⟩ ⟨rfl, rfl⟩ rfl rfl rfl (Nat.le_of_ble_eq_true rfl) ?_
  exact AR.iret (pc := 55) rfl dX8_as_55 (hrI (Option.some.inj h))
set_option maxHeartbeats 4000000 in
set_option maxRecDepth 100000 in
theorem A8_as {l : Launch} (x1 : Int32) (x2 : Int32) (σ : HS) (r : Int32 × HS) (h : f8_as x1 x2 σ = some r) : MA l yX8_as (wsU yX8_as cX8_as 3 (some .int)) rm8_as SC [.ref 0, .int x1, .int x2] σ (some (.int r.1), r.2) := by
  refine MA.of (L := [(0, .ref 0), (1, .int x1), (2, .int x2)]) pn_X8_as rfl (fun _ => Nat.le_of_ble_eq_true rfl) (fun _ => rfl) ?_
  unfold f8_as at h
  refine AR.aload_n (pc := 0) (j := 0) dX8_as_0 rfl rfl ?_
  refine AR.getf (pc := 1) (ci := 8) (j := 1) (d := 5 + 2) (v := .ref 5) (T := TX8) dX8_as_1 rfl rfl rfl (by decide) (fun w hw => wsU_in (uw_X8 w hw)) (wsU_in fl_X8_32) rfl ?_
  refine AR.iload_n (pc := 4) (j := 1) dX8_as_4 rfl rfl ?_
  obtain ⟨r1, h1, h⟩ := bd_some h
  refine AR.callVN (pc := 5) (As := [.int x1]) (st := []) (ci := 4) dX8_as_5 ⟨cd_X4_has, im_X4_has, se_X4_has, ini_X4⟩ mn_X8_135 (A4_has x1 σ _ h1) ⟨rfl, pd_X4_has⟩ ⟨Nat.le_of_ble_eq_true rfl, Nat.le_of_ble_eq_true rfl⟩ ⟨rfl, rfl⟩ rfl rfl rfl (Nat.le_of_ble_eq_true rfl) ?_
  refine AR.if_ne (pc := 8) (tgt := 17) dX8_as_8 (by decide) (fun c2 => ?_) (fun c2 => ?_)
  · replace h := ite_f c2 h
    refine AR.iload_n (pc := 17) (j := 2) dX8_as_17 rfl rfl ?_
    refine AR.if_lt (pc := 18) (tgt := 26) dX8_as_18 (by decide) (fun c3 => ?_) (fun c3 => ?_)
    · replace h := ite_t c3 h
      exact AR.pick [0] rfl (A8_as_26 (r1.2) r h)
    · replace h := ite_f c3 h
      refine AR.iload_n (pc := 21) (j := 2) dX8_as_21 rfl rfl ?_
      refine AR.iconst (pc := 22) (v := 3) dX8_as_22 (by decide) ?_
      refine AR.icmp_lt (pc := 23) (tgt := 33) dX8_as_23 (by decide) (fun c4 => ?_) (fun c4 => ?_)
      · replace h := ite_t c4 h
        refine AR.aload_n (pc := 33) (j := 0) dX8_as_33 rfl rfl ?_
        refine AR.iload_n (pc := 34) (j := 2) dX8_as_34 rfl rfl ?_
        refine AR.aload_n (pc := 35) (j := 0) dX8_as_35 rfl rfl ?_
        refine AR.getf (pc := 36) (ci := 8) (j := 1) (d := 5 + 2) (v := .ref 5) (T := TX8) dX8_as_36 rfl rfl rfl (by decide) (fun w hw => wsU_in (uw_X8 w hw)) (wsU_in fl_X8_32) rfl ?_
        refine AR.iload_n (pc := 39) (j := 1) dX8_as_39 rfl rfl ?_
        obtain ⟨r5, h5, h⟩ := bd_some h
        refine AR.callVN (pc := 40) (As := [.int x1]) (st := [.int x2, .ref 0]) (ci := 4) dX8_as_40 ⟨cd_X4_kindOf, im_X4_kindOf, se_X4_kindOf, ini_X4⟩ mn_X8_139 (A4_kindOf 5 ppl5 x1 (r1.2) _ h5) ⟨rfl, pd_X4_kindOf⟩ ⟨Nat.le_of_ble_eq_true rfl, Nat.le_of_ble_eq_true rfl⟩ ⟨rfl, rfl⟩ rfl rfl rfl (Nat.le_of_ble_eq_true rfl) ?_
        refine AR.icmp_gt (pc := 43) (tgt := 50) dX8_as_43 (by decide) (fun c6 => ?_) (fun c6 => ?_)
        · replace h := ite_t c6 h
          refine AR.bipush (pc := 50) (v := (-12)) dX8_as_50 (by decide) ?_
          exact AR.pick [] rfl (A8_as_52 (-12) (r5.2) r h)
        · replace h := ite_f c6 h
          refine AR.iconst (pc := 46) (v := 1) dX8_as_46 (by decide) ?_
          refine AR.goto (pc := 47) (tgt := 52) dX8_as_47 (by decide) ?_
          exact AR.pick [] rfl (A8_as_52 1 (r5.2) r h)
      · replace h := ite_f c4 h
        exact AR.pick [0] rfl (A8_as_26 (r1.2) r h)
  · replace h := ite_t c2 h
    refine AR.aload_n (pc := 11) (j := 0) dX8_as_11 rfl rfl ?_
    refine AR.iconst (pc := 12) (v := (-1)) dX8_as_12 (by decide) ?_
    obtain ⟨r7, h7, h⟩ := bd_some h
    refine AR.callV (pc := 13) (As := [.int (-1)]) (st := []) (ci := 8) dX8_as_13 ⟨cd_X8_told, im_X8_told, se_X8_told, ini_X8⟩ ml_X8_109 (A8_told (-1) (r1.2) _ h7) ⟨rfl, pd_X8_told⟩ ⟨Nat.le_of_ble_eq_true rfl, Nat.le_of_ble_eq_true rfl⟩ ⟨rfl, rfl⟩ rfl rfl rfl (Nat.le_of_ble_eq_true rfl) ?_
    exact AR.iret (pc := 16) rfl dX8_as_16 (hrI (Option.some.inj h))
noncomputable def f8_trace (σ : HS) : Option (Int32 × HS) :=
  some ((σ.1 0 12), σ)
set_option maxHeartbeats 4000000 in
set_option maxRecDepth 100000 in
theorem A8_trace {l : Launch} (σ : HS) (r : Int32 × HS) (h : f8_trace σ = some r) : MA l yX8_trace (wsU yX8_trace cX8_trace 1 (some .int)) rm8_trace SC [.ref 0] σ (some (.int r.1), r.2) := by
  refine MA.of (L := [(0, .ref 0)]) pn_X8_trace rfl (fun _ => Nat.le_of_ble_eq_true rfl) (fun _ => rfl) ?_
  unfold f8_trace at h
  refine AR.aload_n (pc := 0) (j := 0) dX8_trace_0 rfl rfl ?_
  refine AR.getf (pc := 1) (ci := 8) (j := 12) (d := 0) (v := .int (σ.1 0 12)) (T := TX8) dX8_trace_1 rfl rfl rfl (by decide) (fun w hw => wsU_in (uw_X8 w hw)) (wsU_in fl_X8_15) rfl ?_
  exact AR.iret (pc := 4) rfl dX8_trace_4 (hrI (Option.some.inj h))
noncomputable def f8_fault (σ : HS) : Option (Int32 × HS) :=
  some ((σ.1 0 13), σ)
set_option maxHeartbeats 4000000 in
set_option maxRecDepth 100000 in
theorem A8_fault {l : Launch} (σ : HS) (r : Int32 × HS) (h : f8_fault σ = some r) : MA l yX8_fault (wsU yX8_fault cX8_fault 1 (some .int)) rm8_fault SC [.ref 0] σ (some (.int r.1), r.2) := by
  refine MA.of (L := [(0, .ref 0)]) pn_X8_fault rfl (fun _ => Nat.le_of_ble_eq_true rfl) (fun _ => rfl) ?_
  unfold f8_fault at h
  refine AR.aload_n (pc := 0) (j := 0) dX8_fault_0 rfl rfl ?_
  refine AR.getf (pc := 1) (ci := 8) (j := 13) (d := 0) (v := .int (σ.1 0 13)) (T := TX8) dX8_fault_1 rfl rfl rfl (by decide) (fun w hw => wsU_in (uw_X8 w hw)) (wsU_in fl_X8_19) rfl ?_
  exact AR.iret (pc := 4) rfl dX8_fault_4 (hrI (Option.some.inj h))
noncomputable def f8_many (x1 : Int32) (σ : HS) : Option (Int32 × HS) :=
  if (x1 : Int32) = 0 then
    some ((σ.1 5 0), σ)
  else
    if (x1 : Int32) = 1 then
      some ((σ.1 5 1), σ)
    else
      if (x1 : Int32) = 2 then
        some ((σ.1 20 3), σ)
      else
        if (x1 : Int32) = 3 then
          some ((σ.1 20 2), σ)
        else
          if (x1 : Int32) = 4 then
            bd (f0_turns 20 σ) fun r6 =>
            some (r6.1, r6.2)
          else
            if (x1 : Int32) = 5 then
              some ((σ.1 40 3), σ)
            else
              some ((-2), σ)
set_option maxHeartbeats 4000000 in
set_option maxRecDepth 100000 in
theorem A8_many {l : Launch} (x1 : Int32) (σ : HS) (r : Int32 × HS) (h : f8_many x1 σ = some r) : MA l yX8_many (wsU yX8_many cX8_many 2 (some .int)) rm8_many SC [.ref 0, .int x1] σ (some (.int r.1), r.2) := by
  refine MA.of (L := [(0, .ref 0), (1, .int x1)]) pn_X8_many rfl (fun _ => Nat.le_of_ble_eq_true rfl) (fun _ => rfl) ?_
  unfold f8_many at h
  refine AR.iload_n (pc := 0) (j := 1) dX8_many_0 rfl rfl ?_
  by_cases c1 : (x1 : Int32) = 0
  · replace h := ite_t c1 h
    refine AR.tableIn (pc := 1) (off := 39) (tgt := 40) dX8_many_1 (by rw [c1]; decide) (by rw [c1]; decide) (by rw [c1]; rfl) (by decide) ?_
    refine AR.aload_n (pc := 40) (j := 0) dX8_many_40 rfl rfl ?_
    refine AR.getf (pc := 41) (ci := 8) (j := 1) (d := 5 + 2) (v := .ref 5) (T := TX8) dX8_many_41 rfl rfl rfl (by decide) (fun w hw => wsU_in (uw_X8 w hw)) (wsU_in fl_X8_32) rfl ?_
    refine AR.getfN (pc := 44) (ci := 4) (j := 0) (d := 0) (v := .int (σ.1 5 0)) (T := TX4) dX8_many_44 rfl rfl rfl (by decide) (fun w hw => wsU_in (uw_X4 w hw)) fn_X8_132 rfl ?_
    exact AR.iret (pc := 47) rfl dX8_many_47 (hrI (Option.some.inj h))
  · replace h := ite_f c1 h
    by_cases c2 : (x1 : Int32) = 1
    · replace h := ite_t c2 h
      refine AR.tableIn (pc := 1) (off := 47) (tgt := 48) dX8_many_1 (by rw [c2]; decide) (by rw [c2]; decide) (by rw [c2]; rfl) (by decide) ?_
      refine AR.aload_n (pc := 48) (j := 0) dX8_many_48 rfl rfl ?_
      refine AR.getf (pc := 49) (ci := 8) (j := 1) (d := 5 + 2) (v := .ref 5) (T := TX8) dX8_many_49 rfl rfl rfl (by decide) (fun w hw => wsU_in (uw_X8 w hw)) (wsU_in fl_X8_32) rfl ?_
      refine AR.getfN (pc := 52) (ci := 4) (j := 1) (d := 0) (v := .int (σ.1 5 1)) (T := TX4) dX8_many_52 rfl rfl rfl (by decide) (fun w hw => wsU_in (uw_X4 w hw)) fn_X8_213 rfl ?_
      exact AR.iret (pc := 55) rfl dX8_many_55 (hrI (Option.some.inj h))
    · replace h := ite_f c2 h
      by_cases c3 : (x1 : Int32) = 2
      · replace h := ite_t c3 h
        refine AR.tableIn (pc := 1) (off := 55) (tgt := 56) dX8_many_1 (by rw [c3]; decide) (by rw [c3]; decide) (by rw [c3]; rfl) (by decide) ?_
        refine AR.aload_n (pc := 56) (j := 0) dX8_many_56 rfl rfl ?_
        refine AR.getf (pc := 57) (ci := 8) (j := 3) (d := 20 + 2) (v := .ref 20) (T := TX8) dX8_many_57 rfl rfl rfl (by decide) (fun w hw => wsU_in (uw_X8 w hw)) (wsU_in fl_X8_54) rfl ?_
        refine AR.getfN (pc := 60) (ci := 0) (j := 3) (d := 0) (v := .int (σ.1 20 3)) (T := TX0) dX8_many_60 rfl rfl rfl (by decide) (fun w hw => wsU_in (uw_X0 w hw)) fn_X8_346 rfl ?_
        exact AR.iret (pc := 63) rfl dX8_many_63 (hrI (Option.some.inj h))
      · replace h := ite_f c3 h
        by_cases c4 : (x1 : Int32) = 3
        · replace h := ite_t c4 h
          refine AR.tableIn (pc := 1) (off := 63) (tgt := 64) dX8_many_1 (by rw [c4]; decide) (by rw [c4]; decide) (by rw [c4]; rfl) (by decide) ?_
          refine AR.aload_n (pc := 64) (j := 0) dX8_many_64 rfl rfl ?_
          refine AR.getf (pc := 65) (ci := 8) (j := 3) (d := 20 + 2) (v := .ref 20) (T := TX8) dX8_many_65 rfl rfl rfl (by decide) (fun w hw => wsU_in (uw_X8 w hw)) (wsU_in fl_X8_54) rfl ?_
          refine AR.getfN (pc := 68) (ci := 0) (j := 2) (d := 0) (v := .int (σ.1 20 2)) (T := TX0) dX8_many_68 rfl rfl rfl (by decide) (fun w hw => wsU_in (uw_X0 w hw)) fn_X8_160 rfl ?_
          exact AR.iret (pc := 71) rfl dX8_many_71 (hrI (Option.some.inj h))
        · replace h := ite_f c4 h
          by_cases c5 : (x1 : Int32) = 4
          · replace h := ite_t c5 h
            refine AR.tableIn (pc := 1) (off := 71) (tgt := 72) dX8_many_1 (by rw [c5]; decide) (by rw [c5]; decide) (by rw [c5]; rfl) (by decide) ?_
            refine AR.aload_n (pc := 72) (j := 0) dX8_many_72 rfl rfl ?_
            refine AR.getf (pc := 73) (ci := 8) (j := 3) (d := 20 + 2) (v := .ref 20) (T := TX8) dX8_many_73 rfl rfl rfl (by decide) (fun w hw => wsU_in (uw_X8 w hw)) (wsU_in fl_X8_54) rfl ?_
            obtain ⟨r6, h6, h⟩ := bd_some h
            refine AR.callVN (pc := 76) (As := []) (st := []) (ci := 0) dX8_many_76 ⟨cd_X0_turns, im_X0_turns, se_X0_turns, ini_X0⟩ mn_X8_189 (A0_turns 20 grp20 σ _ h6) ⟨rfl, pd_X0_turns⟩ ⟨Nat.le_of_ble_eq_true rfl, Nat.le_of_ble_eq_true rfl⟩ ⟨rfl, rfl⟩ rfl rfl rfl (Nat.le_of_ble_eq_true rfl) ?_
            exact AR.iret (pc := 79) rfl dX8_many_79 (hrI (Option.some.inj h))
          · replace h := ite_f c5 h
            by_cases c7 : (x1 : Int32) = 5
            · replace h := ite_t c7 h
              refine AR.tableIn (pc := 1) (off := 79) (tgt := 80) dX8_many_1 (by rw [c7]; decide) (by rw [c7]; decide) (by rw [c7]; rfl) (by decide) ?_
              refine AR.aload_n (pc := 80) (j := 0) dX8_many_80 rfl rfl ?_
              refine AR.getf (pc := 81) (ci := 8) (j := 9) (d := 40 + 2) (v := .ref 40) (T := TX8) dX8_many_81 rfl rfl rfl (by decide) (fun w hw => wsU_in (uw_X8 w hw)) (wsU_in fl_X8_88) rfl ?_
              refine AR.getfN (pc := 84) (ci := 2) (j := 3) (d := 0) (v := .int (σ.1 40 3)) (T := TX2) dX8_many_84 rfl rfl rfl (by decide) (fun w hw => wsU_in (uw_X2 w hw)) fn_X8_274 rfl ?_
              exact AR.iret (pc := 87) rfl dX8_many_87 (hrI (Option.some.inj h))
            · replace h := ite_f c7 h
              refine AR.tableOut (pc := 1) (tgt := 88) dX8_many_1 (tsw6 c1 c2 c3 c4 c5 c7) (by decide) ?_
              refine AR.bipush (pc := 88) (v := (-2)) dX8_many_88 (by decide) ?_
              exact AR.iret (pc := 90) rfl dX8_many_90 (hrI (Option.some.inj h))
