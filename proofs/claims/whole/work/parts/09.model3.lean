noncomputable def f9_owed_21 (σ : HS) : Option (Int64 × HS) :=
  bd (f9_lost σ) fun r1 =>
  some (r1.1, r1.2)
noncomputable def f9_owed (x1 : Int32) (x2 : Int32) (σ : HS) : Option (Int64 × HS) :=
  bd (f9_noSpeaker x1 σ) fun r1 =>
  if (r1.1 : Int32) = 0 then
    bd (f9_noSpeaker x2 (r1.2)) fun r3 =>
    if (r3.1 : Int32) = 0 then
      if (x1 : Int32) = x2 then
        f9_owed_21 (r3.2)
      else
        bd (f9_goFree (r3.2)) fun r6 =>
        bd (f9_placeOf x1 r6) fun r7 =>
        if (r7.1 : Int32) < 0 ∨ 7 ≤ (r7.1 : Int32).toNatClampNeg then none else
        bd (f9_longestBy x1 ((r7.2).1 13 (r7.1 : Int32).toNatClampNeg) (r7.2)) fun r9 =>
        bd (f9_goDay (r7.1) (-9) (r9.2)) fun r10 =>
        if (x2 : Int32) < 0 ∨ 5 ≤ (x2 : Int32).toNatClampNeg then none else
        bd (f9_goDay (r7.1) (r9.1) r10) fun r12 =>
        if (x2 : Int32) < 0 ∨ 5 ≤ (x2 : Int32).toNatClampNeg then none else
        some ((((r10.1 14 (x2 : Int32).toNatClampNeg) - (r12.1 14 (x2 : Int32).toNatClampNeg)) : Int32).toInt64, r12)
    else
      f9_owed_21 (r3.2)
  else
    f9_owed_21 (r1.2)
set_option maxHeartbeats 4000000 in
set_option maxRecDepth 100000 in
theorem A9_owed_21 {l : Launch} (σ : HS) (r : Int64 × HS) (h : f9_owed_21 σ = some r) : AR l RX9 cX9_owed 6 (some .long) (wsU yX9_owed cX9_owed 6 (some .long)) rm9_owed SM 21 [] [] σ (some (.long r.1), r.2) := by
  unfold f9_owed_21 at h
  obtain ⟨r1, h1, h⟩ := bd_some h
  refine AR.callS (pc := 21) (As := []) (st := []) dX9_owed_21 ⟨cd_X9_lost, sm_X9_lost, ini_X9⟩ ml_X9_88 (A9_lost σ _ h1) ⟨rfl, pd_X9_lost⟩ ⟨Nat.le_of_ble_eq_true rfl, Nat.le_of_ble_eq_true rfl⟩ ⟨rfl, rfl⟩ rfl (Nat.le_of_ble_eq_true rfl) ?_
  exact AR.lret (pc := 24) rfl dX9_owed_24 (hrL (Option.some.inj h))
set_option maxHeartbeats 4000000 in
set_option maxRecDepth 100000 in
theorem A9_owed {l : Launch} (x1 : Int32) (x2 : Int32) (σ : HS) (r : Int64 × HS) (h : f9_owed x1 x2 σ = some r) : MA l yX9_owed (wsU yX9_owed cX9_owed 6 (some .long)) rm9_owed SM [.ref 0, .int x1, .int x2] σ (some (.long r.1), r.2) := by
  refine MA.of (L := [(0, .ref 0), (1, .int x1), (2, .int x2)]) pn_X9_owed rfl (fun _ => Nat.le_of_ble_eq_true rfl) (fun _ => rfl) ?_
  unfold f9_owed at h
  refine AR.aload_n (pc := 0) (j := 0) dX9_owed_0 rfl rfl ?_
  refine AR.iload_n (pc := 1) (j := 1) dX9_owed_1 rfl rfl ?_
  obtain ⟨r1, h1, h⟩ := bd_some h
  refine AR.callV (pc := 2) (As := [.int x1]) (st := []) (ci := 9) dX9_owed_2 ⟨cd_X9_noSpeaker, im_X9_noSpeaker, se_X9_noSpeaker, ini_X9⟩ ml_X9_116 (A9_noSpeaker x1 σ _ h1) ⟨rfl, pd_X9_noSpeaker⟩ ⟨Nat.le_of_ble_eq_true rfl, Nat.le_of_ble_eq_true rfl⟩ ⟨rfl, rfl⟩ rfl rfl rfl (Nat.le_of_ble_eq_true rfl) ?_
  refine AR.if_ne (pc := 5) (tgt := 21) dX9_owed_5 (by decide) (fun c2 => ?_) (fun c2 => ?_)
  · replace h := ite_f c2 h
    exact AR.pick [] rfl (A9_owed_21 (r1.2) r h)
  · replace h := ite_t c2 h
    refine AR.aload_n (pc := 8) (j := 0) dX9_owed_8 rfl rfl ?_
    refine AR.iload_n (pc := 9) (j := 2) dX9_owed_9 rfl rfl ?_
    obtain ⟨r3, h3, h⟩ := bd_some h
    refine AR.callV (pc := 10) (As := [.int x2]) (st := []) (ci := 9) dX9_owed_10 ⟨cd_X9_noSpeaker, im_X9_noSpeaker, se_X9_noSpeaker, ini_X9⟩ ml_X9_116 (A9_noSpeaker x2 (r1.2) _ h3) ⟨rfl, pd_X9_noSpeaker⟩ ⟨Nat.le_of_ble_eq_true rfl, Nat.le_of_ble_eq_true rfl⟩ ⟨rfl, rfl⟩ rfl rfl rfl (Nat.le_of_ble_eq_true rfl) ?_
    refine AR.if_ne (pc := 13) (tgt := 21) dX9_owed_13 (by decide) (fun c4 => ?_) (fun c4 => ?_)
    · replace h := ite_f c4 h
      exact AR.pick [] rfl (A9_owed_21 (r3.2) r h)
    · replace h := ite_t c4 h
      refine AR.iload_n (pc := 16) (j := 1) dX9_owed_16 rfl rfl ?_
      refine AR.iload_n (pc := 17) (j := 2) dX9_owed_17 rfl rfl ?_
      refine AR.icmp_ne (pc := 18) (tgt := 25) dX9_owed_18 (by decide) (fun c5 => ?_) (fun c5 => ?_)
      · replace h := ite_f c5 h
        refine AR.aload_n (pc := 25) (j := 0) dX9_owed_25 rfl rfl ?_
        obtain ⟨r6, h6, h⟩ := bd_some h
        refine AR.callV (pc := 26) (As := []) (st := []) (ci := 9) dX9_owed_26 ⟨cd_X9_goFree, im_X9_goFree, se_X9_goFree, ini_X9⟩ ml_X9_254 (A9_goFree (r3.2) _ h6) ⟨rfl, pd_X9_goFree⟩ ⟨Nat.le_of_ble_eq_true rfl, Nat.le_of_ble_eq_true rfl⟩ ⟨rfl, rfl⟩ rfl rfl rfl (Nat.le_of_ble_eq_true rfl) ?_
        refine AR.aload_n (pc := 29) (j := 0) dX9_owed_29 rfl rfl ?_
        refine AR.iload_n (pc := 30) (j := 1) dX9_owed_30 rfl rfl ?_
        obtain ⟨r7, h7, h⟩ := bd_some h
        refine AR.callV (pc := 31) (As := [.int x1]) (st := []) (ci := 9) dX9_owed_31 ⟨cd_X9_placeOf, im_X9_placeOf, se_X9_placeOf, ini_X9⟩ ml_X9_179 (A9_placeOf x1 r6 _ h7) ⟨rfl, pd_X9_placeOf⟩ ⟨Nat.le_of_ble_eq_true rfl, Nat.le_of_ble_eq_true rfl⟩ ⟨rfl, rfl⟩ rfl rfl rfl (Nat.le_of_ble_eq_true rfl) ?_
        refine AR.istore_n (pc := 34) (L2 := [(3, .int (r7.1)), (0, .ref 0), (1, .int x1), (2, .int x2)]) dX9_owed_34 rfl (by decide) rfl ?_
        refine AR.aload_n (pc := 35) (j := 1) dX9_owed_35 rfl rfl ?_
        refine AR.iload_n (pc := 36) (j := 2) dX9_owed_36 rfl rfl ?_
        refine AR.aload_n (pc := 37) (j := 1) dX9_owed_37 rfl rfl ?_
        refine AR.getf (pc := 38) (ci := 9) (j := 21) (d := 13 + 2) (v := .ref 13) (T := TX9) dX9_owed_38 rfl rfl rfl (by decide) (fun w hw => wsU_in (uw_X9 w hw)) (wsU_in fl_X9_46) rfl ?_
        refine AR.iload_n (pc := 41) (j := 0) dX9_owed_41 rfl rfl ?_
        obtain ⟨c8, h⟩ := gn_some h
        refine AR.iaload (pc := 42) dX9_owed_42 rfl c8 ?_
        obtain ⟨r9, h9, h⟩ := bd_some h
        refine AR.callV (pc := 43) (As := [.int x1, .int ((r7.2).1 13 (r7.1 : Int32).toNatClampNeg)]) (st := []) (ci := 9) dX9_owed_43 ⟨cd_X9_longestBy, im_X9_longestBy, se_X9_longestBy, ini_X9⟩ ml_X9_265 (A9_longestBy x1 ((r7.2).1 13 (r7.1 : Int32).toNatClampNeg) (r7.2) _ h9) ⟨rfl, pd_X9_longestBy⟩ ⟨Nat.le_of_ble_eq_true rfl, Nat.le_of_ble_eq_true rfl⟩ ⟨rfl, rfl⟩ rfl rfl rfl (Nat.le_of_ble_eq_true rfl) ?_
        refine AR.istore (pc := 46) (L2 := [(4, .int (r9.1)), (3, .int (r7.1)), (0, .ref 0), (1, .int x1), (2, .int x2)]) dX9_owed_46 (by decide) rfl ?_
        refine AR.aload_n (pc := 48) (j := 2) dX9_owed_48 rfl rfl ?_
        refine AR.iload_n (pc := 49) (j := 1) dX9_owed_49 rfl rfl ?_
        refine AR.bipush (pc := 50) (v := (-9)) dX9_owed_50 (by decide) ?_
        obtain ⟨r10, h10, h⟩ := bd_some h
        refine AR.callV (pc := 52) (As := [.int (r7.1), .int (-9)]) (st := []) (ci := 9) dX9_owed_52 ⟨cd_X9_goDay, im_X9_goDay, se_X9_goDay, ini_X9⟩ ml_X9_247 (A9_goDay (r7.1) (-9) (r9.2) _ h10) ⟨rfl, pd_X9_goDay⟩ ⟨Nat.le_of_ble_eq_true rfl, Nat.le_of_ble_eq_true rfl⟩ ⟨rfl, rfl⟩ rfl rfl rfl (Nat.le_of_ble_eq_true rfl) ?_
        refine AR.aload_n (pc := 55) (j := 2) dX9_owed_55 rfl rfl ?_
        refine AR.getf (pc := 56) (ci := 9) (j := 22) (d := 14 + 2) (v := .ref 14) (T := TX9) dX9_owed_56 rfl rfl rfl (by decide) (fun w hw => wsU_in (uw_X9 w hw)) (wsU_in fl_X9_49) rfl ?_
        refine AR.iload_n (pc := 59) (j := 4) dX9_owed_59 rfl rfl ?_
        obtain ⟨c11, h⟩ := gn_some h
        refine AR.iaload (pc := 60) dX9_owed_60 rfl c11 ?_
        refine AR.istore (pc := 61) (L2 := [(5, .int (r10.1 14 (x2 : Int32).toNatClampNeg)), (4, .int (r9.1)), (3, .int (r7.1)), (0, .ref 0), (1, .int x1), (2, .int x2)]) dX9_owed_61 (by decide) rfl ?_
        refine AR.aload_n (pc := 63) (j := 3) dX9_owed_63 rfl rfl ?_
        refine AR.iload_n (pc := 64) (j := 2) dX9_owed_64 rfl rfl ?_
        refine AR.iload (pc := 65) (j := 1) dX9_owed_65 rfl ?_
        obtain ⟨r12, h12, h⟩ := bd_some h
        refine AR.callV (pc := 67) (As := [.int (r7.1), .int (r9.1)]) (st := []) (ci := 9) dX9_owed_67 ⟨cd_X9_goDay, im_X9_goDay, se_X9_goDay, ini_X9⟩ ml_X9_247 (A9_goDay (r7.1) (r9.1) r10 _ h12) ⟨rfl, pd_X9_goDay⟩ ⟨Nat.le_of_ble_eq_true rfl, Nat.le_of_ble_eq_true rfl⟩ ⟨rfl, rfl⟩ rfl rfl rfl (Nat.le_of_ble_eq_true rfl) ?_
        refine AR.iload (pc := 70) (j := 0) dX9_owed_70 rfl ?_
        refine AR.aload_n (pc := 72) (j := 3) dX9_owed_72 rfl rfl ?_
        refine AR.getf (pc := 73) (ci := 9) (j := 22) (d := 14 + 2) (v := .ref 14) (T := TX9) dX9_owed_73 rfl rfl rfl (by decide) (fun w hw => wsU_in (uw_X9 w hw)) (wsU_in fl_X9_49) rfl ?_
        refine AR.iload_n (pc := 76) (j := 5) dX9_owed_76 rfl rfl ?_
        obtain ⟨c13, h⟩ := gn_some h
        refine AR.iaload (pc := 77) dX9_owed_77 rfl c13 ?_
        refine AR.isub (pc := 78) dX9_owed_78 ?_
        refine AR.i2l (pc := 79) dX9_owed_79 ?_
        exact AR.lret (pc := 80) rfl dX9_owed_80 (hrL (Option.some.inj h))
      · replace h := ite_t c5 h
        exact AR.pick [] rfl (A9_owed_21 (r3.2) r h)
noncomputable def f9_bargain_21 (σ : HS) : Option (Int64 × HS) :=
  bd (f9_lost σ) fun r1 =>
  some (r1.1, r1.2)
noncomputable def f9_bargain (x1 : Int32) (x2 : Int32) (σ : HS) : Option (Int64 × HS) :=
  bd (f9_noSpeaker x1 σ) fun r1 =>
  if (r1.1 : Int32) = 0 then
    bd (f9_noSpeaker x2 (r1.2)) fun r3 =>
    if (r3.1 : Int32) = 0 then
      if (x1 : Int32) = x2 then
        f9_bargain_21 (r3.2)
      else
        bd (f9_goFree (r3.2)) fun r6 =>
        if (x1 : Int32) < 0 ∨ 5 ≤ (x1 : Int32).toNatClampNeg then none else
        if (x2 : Int32) < 0 ∨ 5 ≤ (x2 : Int32).toNatClampNeg then none else
        bd (f9_placeOf x1 r6) fun r9 =>
        bd (f9_goDay (r9.1) (-9) (r9.2)) fun r10 =>
        if (x1 : Int32) < 0 ∨ 5 ≤ (x1 : Int32).toNatClampNeg then none else
        if (x2 : Int32) < 0 ∨ 5 ≤ (x2 : Int32).toNatClampNeg then none else
        some (((((r10.1 14 (x1 : Int32).toNatClampNeg) + (r10.1 14 (x2 : Int32).toNatClampNeg)) - ((r6.1 14 (x1 : Int32).toNatClampNeg) + (r6.1 14 (x2 : Int32).toNatClampNeg))) : Int32).toInt64, r10)
    else
      f9_bargain_21 (r3.2)
  else
    f9_bargain_21 (r1.2)
set_option maxHeartbeats 4000000 in
set_option maxRecDepth 100000 in
theorem A9_bargain_21 {l : Launch} (σ : HS) (r : Int64 × HS) (h : f9_bargain_21 σ = some r) : AR l RX9 cX9_bargain 4 (some .long) (wsU yX9_bargain cX9_bargain 4 (some .long)) rm9_bargain SM 21 [] [] σ (some (.long r.1), r.2) := by
  unfold f9_bargain_21 at h
  obtain ⟨r1, h1, h⟩ := bd_some h
  refine AR.callS (pc := 21) (As := []) (st := []) dX9_bargain_21 ⟨cd_X9_lost, sm_X9_lost, ini_X9⟩ ml_X9_88 (A9_lost σ _ h1) ⟨rfl, pd_X9_lost⟩ ⟨Nat.le_of_ble_eq_true rfl, Nat.le_of_ble_eq_true rfl⟩ ⟨rfl, rfl⟩ rfl (Nat.le_of_ble_eq_true rfl) ?_
  exact AR.lret (pc := 24) rfl dX9_bargain_24 (hrL (Option.some.inj h))
set_option maxHeartbeats 4000000 in
set_option maxRecDepth 100000 in
theorem A9_bargain {l : Launch} (x1 : Int32) (x2 : Int32) (σ : HS) (r : Int64 × HS) (h : f9_bargain x1 x2 σ = some r) : MA l yX9_bargain (wsU yX9_bargain cX9_bargain 4 (some .long)) rm9_bargain SM [.ref 0, .int x1, .int x2] σ (some (.long r.1), r.2) := by
  refine MA.of (L := [(0, .ref 0), (1, .int x1), (2, .int x2)]) pn_X9_bargain rfl (fun _ => Nat.le_of_ble_eq_true rfl) (fun _ => rfl) ?_
  unfold f9_bargain at h
  refine AR.aload_n (pc := 0) (j := 0) dX9_bargain_0 rfl rfl ?_
  refine AR.iload_n (pc := 1) (j := 1) dX9_bargain_1 rfl rfl ?_
  obtain ⟨r1, h1, h⟩ := bd_some h
  refine AR.callV (pc := 2) (As := [.int x1]) (st := []) (ci := 9) dX9_bargain_2 ⟨cd_X9_noSpeaker, im_X9_noSpeaker, se_X9_noSpeaker, ini_X9⟩ ml_X9_116 (A9_noSpeaker x1 σ _ h1) ⟨rfl, pd_X9_noSpeaker⟩ ⟨Nat.le_of_ble_eq_true rfl, Nat.le_of_ble_eq_true rfl⟩ ⟨rfl, rfl⟩ rfl rfl rfl (Nat.le_of_ble_eq_true rfl) ?_
  refine AR.if_ne (pc := 5) (tgt := 21) dX9_bargain_5 (by decide) (fun c2 => ?_) (fun c2 => ?_)
  · replace h := ite_f c2 h
    exact AR.pick [] rfl (A9_bargain_21 (r1.2) r h)
  · replace h := ite_t c2 h
    refine AR.aload_n (pc := 8) (j := 0) dX9_bargain_8 rfl rfl ?_
    refine AR.iload_n (pc := 9) (j := 2) dX9_bargain_9 rfl rfl ?_
    obtain ⟨r3, h3, h⟩ := bd_some h
    refine AR.callV (pc := 10) (As := [.int x2]) (st := []) (ci := 9) dX9_bargain_10 ⟨cd_X9_noSpeaker, im_X9_noSpeaker, se_X9_noSpeaker, ini_X9⟩ ml_X9_116 (A9_noSpeaker x2 (r1.2) _ h3) ⟨rfl, pd_X9_noSpeaker⟩ ⟨Nat.le_of_ble_eq_true rfl, Nat.le_of_ble_eq_true rfl⟩ ⟨rfl, rfl⟩ rfl rfl rfl (Nat.le_of_ble_eq_true rfl) ?_
    refine AR.if_ne (pc := 13) (tgt := 21) dX9_bargain_13 (by decide) (fun c4 => ?_) (fun c4 => ?_)
    · replace h := ite_f c4 h
      exact AR.pick [] rfl (A9_bargain_21 (r3.2) r h)
    · replace h := ite_t c4 h
      refine AR.iload_n (pc := 16) (j := 1) dX9_bargain_16 rfl rfl ?_
      refine AR.iload_n (pc := 17) (j := 2) dX9_bargain_17 rfl rfl ?_
      refine AR.icmp_ne (pc := 18) (tgt := 25) dX9_bargain_18 (by decide) (fun c5 => ?_) (fun c5 => ?_)
      · replace h := ite_f c5 h
        refine AR.aload_n (pc := 25) (j := 0) dX9_bargain_25 rfl rfl ?_
        obtain ⟨r6, h6, h⟩ := bd_some h
        refine AR.callV (pc := 26) (As := []) (st := []) (ci := 9) dX9_bargain_26 ⟨cd_X9_goFree, im_X9_goFree, se_X9_goFree, ini_X9⟩ ml_X9_254 (A9_goFree (r3.2) _ h6) ⟨rfl, pd_X9_goFree⟩ ⟨Nat.le_of_ble_eq_true rfl, Nat.le_of_ble_eq_true rfl⟩ ⟨rfl, rfl⟩ rfl rfl rfl (Nat.le_of_ble_eq_true rfl) ?_
        refine AR.aload_n (pc := 29) (j := 0) dX9_bargain_29 rfl rfl ?_
        refine AR.getf (pc := 30) (ci := 9) (j := 22) (d := 14 + 2) (v := .ref 14) (T := TX9) dX9_bargain_30 rfl rfl rfl (by decide) (fun w hw => wsU_in (uw_X9 w hw)) (wsU_in fl_X9_49) rfl ?_
        refine AR.iload_n (pc := 33) (j := 1) dX9_bargain_33 rfl rfl ?_
        obtain ⟨c7, h⟩ := gn_some h
        refine AR.iaload (pc := 34) dX9_bargain_34 rfl c7 ?_
        refine AR.aload_n (pc := 35) (j := 0) dX9_bargain_35 rfl rfl ?_
        refine AR.getf (pc := 36) (ci := 9) (j := 22) (d := 14 + 2) (v := .ref 14) (T := TX9) dX9_bargain_36 rfl rfl rfl (by decide) (fun w hw => wsU_in (uw_X9 w hw)) (wsU_in fl_X9_49) rfl ?_
        refine AR.iload_n (pc := 39) (j := 2) dX9_bargain_39 rfl rfl ?_
        obtain ⟨c8, h⟩ := gn_some h
        refine AR.iaload (pc := 40) dX9_bargain_40 rfl c8 ?_
        refine AR.iadd (pc := 41) dX9_bargain_41 ?_
        refine AR.istore_n (pc := 42) (L2 := [(3, .int ((r6.1 14 (x1 : Int32).toNatClampNeg) + (r6.1 14 (x2 : Int32).toNatClampNeg))), (0, .ref 0), (1, .int x1), (2, .int x2)]) dX9_bargain_42 rfl (by decide) rfl ?_
        refine AR.aload_n (pc := 43) (j := 1) dX9_bargain_43 rfl rfl ?_
        refine AR.aload_n (pc := 44) (j := 1) dX9_bargain_44 rfl rfl ?_
        refine AR.iload_n (pc := 45) (j := 2) dX9_bargain_45 rfl rfl ?_
        obtain ⟨r9, h9, h⟩ := bd_some h
        refine AR.callV (pc := 46) (As := [.int x1]) (st := [.ref 0]) (ci := 9) dX9_bargain_46 ⟨cd_X9_placeOf, im_X9_placeOf, se_X9_placeOf, ini_X9⟩ ml_X9_179 (A9_placeOf x1 r6 _ h9) ⟨rfl, pd_X9_placeOf⟩ ⟨Nat.le_of_ble_eq_true rfl, Nat.le_of_ble_eq_true rfl⟩ ⟨rfl, rfl⟩ rfl rfl rfl (Nat.le_of_ble_eq_true rfl) ?_
        refine AR.bipush (pc := 49) (v := (-9)) dX9_bargain_49 (by decide) ?_
        obtain ⟨r10, h10, h⟩ := bd_some h
        refine AR.callV (pc := 51) (As := [.int (r9.1), .int (-9)]) (st := []) (ci := 9) dX9_bargain_51 ⟨cd_X9_goDay, im_X9_goDay, se_X9_goDay, ini_X9⟩ ml_X9_247 (A9_goDay (r9.1) (-9) (r9.2) _ h10) ⟨rfl, pd_X9_goDay⟩ ⟨Nat.le_of_ble_eq_true rfl, Nat.le_of_ble_eq_true rfl⟩ ⟨rfl, rfl⟩ rfl rfl rfl (Nat.le_of_ble_eq_true rfl) ?_
        refine AR.aload_n (pc := 54) (j := 1) dX9_bargain_54 rfl rfl ?_
        refine AR.getf (pc := 55) (ci := 9) (j := 22) (d := 14 + 2) (v := .ref 14) (T := TX9) dX9_bargain_55 rfl rfl rfl (by decide) (fun w hw => wsU_in (uw_X9 w hw)) (wsU_in fl_X9_49) rfl ?_
        refine AR.iload_n (pc := 58) (j := 2) dX9_bargain_58 rfl rfl ?_
        obtain ⟨c11, h⟩ := gn_some h
        refine AR.iaload (pc := 59) dX9_bargain_59 rfl c11 ?_
        refine AR.aload_n (pc := 60) (j := 1) dX9_bargain_60 rfl rfl ?_
        refine AR.getf (pc := 61) (ci := 9) (j := 22) (d := 14 + 2) (v := .ref 14) (T := TX9) dX9_bargain_61 rfl rfl rfl (by decide) (fun w hw => wsU_in (uw_X9 w hw)) (wsU_in fl_X9_49) rfl ?_
        refine AR.iload_n (pc := 64) (j := 3) dX9_bargain_64 rfl rfl ?_
        obtain ⟨c12, h⟩ := gn_some h
        refine AR.iaload (pc := 65) dX9_bargain_65 rfl c12 ?_
        refine AR.iadd (pc := 66) dX9_bargain_66 ?_
        refine AR.iload_n (pc := 67) (j := 0) dX9_bargain_67 rfl rfl ?_
        refine AR.isub (pc := 68) dX9_bargain_68 ?_
        refine AR.i2l (pc := 69) dX9_bargain_69 ?_
        exact AR.lret (pc := 70) rfl dX9_bargain_70 (hrL (Option.some.inj h))
      · replace h := ite_t c5 h
        exact AR.pick [] rfl (A9_bargain_21 (r3.2) r h)
noncomputable def f9_isSaid_44 (k5 : Int32 × Int32 × HS → Option (Int32 × HS)) (x1 : Int32) (x2 : Int32) (x4 : Int32) (z0 : Int32) (σ : HS) : Option (Int32 × HS) :=
  k5 (z0, (x4 + 1), σ)
noncomputable def f9_isSaid_39 (k5 : Int32 × Int32 × HS → Option (Int32 × HS)) (x1 : Int32) (x2 : Int32) (x4 : Int32) (σ : HS) : Option (Int32 × HS) :=
  f9_isSaid_44 k5 x1 x2 x4 1 σ
noncomputable def f9_isSaid_43 (k5 : Int32 × Int32 × HS → Option (Int32 × HS)) (x1 : Int32) (x2 : Int32) (x4 : Int32) (σ : HS) : Option (Int32 × HS) :=
  f9_isSaid_44 k5 x1 x2 x4 0 σ
noncomputable def f9_isSaid_5_b (k5 : Int32 × Int32 × HS → Option (Int32 × HS)) (x1 : Int32) (x2 : Int32) (x3 : Int32) (x4 : Int32) (σ : HS) : Option (Int32 × HS) :=
  bd (f9_turnsNow σ) fun r1 =>
  if (r1.1 : Int32) ≤ x4 then
    if (x3 : Int32) = 0 ∨ (x3 : Int32) = 1 then some (x3, r1.2) else none
  else
    if (x3 : Int32) = 0 then
      bd (f9_speakerOf x4 (r1.2)) fun r5 =>
      if (r5.1 : Int32) = x1 then
        if (x4 : Int32) < 0 ∨ 6 ≤ (x4 : Int32).toNatClampNeg then none else
        if (((r5.2).1 12 (x4 : Int32).toNatClampNeg) : Int32) = x2 then
          f9_isSaid_39 k5 x1 x2 x4 (r5.2)
        else
          f9_isSaid_43 k5 x1 x2 x4 (r5.2)
      else
        f9_isSaid_43 k5 x1 x2 x4 (r5.2)
    else
      f9_isSaid_39 k5 x1 x2 x4 (r1.2)
noncomputable def f9_isSaid_5 (x1 : Int32) (x2 : Int32) (p : Int32 × Int32 × HS) : Option (Int32 × HS) :=
  wloop (fun k5 p => f9_isSaid_5_b k5 x1 x2 p.1 p.2.1 p.2.2) fuelN p
noncomputable def f9_isSaid (x1 : Int32) (x2 : Int32) (σ : HS) : Option (Int32 × HS) :=
  f9_isSaid_5 x1 x2 (0, 0, σ)
set_option maxHeartbeats 4000000 in
set_option maxRecDepth 100000 in
theorem A9_isSaid_44 {l : Launch} (k5 : Int32 × Int32 × HS → Option (Int32 × HS)) (x1 : Int32) (x2 : Int32) (x4 : Int32) (z0 : Int32) (hk5 : ∀ (p : Int32 × Int32 × HS) (r : Int32 × HS), k5 p = some r → AR l RX9 cX9_isSaid 5 (some .boolean) (wsU yX9_isSaid cX9_isSaid 5 (some .boolean)) rm9_isSaid SM 5 [(0, .ref 0), (1, .int x1), (2, .int x2), (3, .int (p.1)), (4, .int (p.2.1))] [] p.2.2 (some (.int r.1), r.2)) (σ : HS) (r : Int32 × HS) (h : f9_isSaid_44 k5 x1 x2 x4 z0 σ = some r) : AR l RX9 cX9_isSaid 5 (some .boolean) (wsU yX9_isSaid cX9_isSaid 5 (some .boolean)) rm9_isSaid SM 44 [(0, .ref 0), (1, .int x1), (2, .int x2), (4, .int x4)] [.int z0] σ (some (.int r.1), r.2) := by
  unfold f9_isSaid_44 at h
  refine AR.istore_n (pc := 44) (L2 := [(3, .int z0), (0, .ref 0), (1, .int x1), (2, .int x2), (4, .int x4)]) dX9_isSaid_44 rfl (by decide) rfl ?_
  refine AR.iinc (pc := 45) (j := 4) (v := (x4 + 1)) (L2 := [(4, .int (x4 + 1)), (3, .int z0), (0, .ref 0), (1, .int x1), (2, .int x2)]) dX9_isSaid_45 rfl rfl (by decide) rfl ?_
  refine AR.goto (pc := 48) (tgt := 5) dX9_isSaid_48 (by decide) ?_
  exact AR.pick [2, 3, 4, 1, 0] rfl (hk5 (z0, (x4 + 1), σ) r h)
set_option maxHeartbeats 4000000 in
set_option maxRecDepth 100000 in
theorem A9_isSaid_39 {l : Launch} (k5 : Int32 × Int32 × HS → Option (Int32 × HS)) (x1 : Int32) (x2 : Int32) (x4 : Int32) (hk5 : ∀ (p : Int32 × Int32 × HS) (r : Int32 × HS), k5 p = some r → AR l RX9 cX9_isSaid 5 (some .boolean) (wsU yX9_isSaid cX9_isSaid 5 (some .boolean)) rm9_isSaid SM 5 [(0, .ref 0), (1, .int x1), (2, .int x2), (3, .int (p.1)), (4, .int (p.2.1))] [] p.2.2 (some (.int r.1), r.2)) (σ : HS) (r : Int32 × HS) (h : f9_isSaid_39 k5 x1 x2 x4 σ = some r) : AR l RX9 cX9_isSaid 5 (some .boolean) (wsU yX9_isSaid cX9_isSaid 5 (some .boolean)) rm9_isSaid SM 39 [(0, .ref 0), (1, .int x1), (2, .int x2), (4, .int x4)] [] σ (some (.int r.1), r.2) := by
  unfold f9_isSaid_39 at h
  refine AR.iconst (pc := 39) (v := 1) dX9_isSaid_39 (by decide) ?_
  refine AR.goto (pc := 40) (tgt := 44) dX9_isSaid_40 (by decide) ?_
  exact AR.pick [0, 1, 2, 3] rfl (A9_isSaid_44 k5 x1 x2 x4 1 hk5 σ r h)
set_option maxHeartbeats 4000000 in
set_option maxRecDepth 100000 in
theorem A9_isSaid_43 {l : Launch} (k5 : Int32 × Int32 × HS → Option (Int32 × HS)) (x1 : Int32) (x2 : Int32) (x4 : Int32) (hk5 : ∀ (p : Int32 × Int32 × HS) (r : Int32 × HS), k5 p = some r → AR l RX9 cX9_isSaid 5 (some .boolean) (wsU yX9_isSaid cX9_isSaid 5 (some .boolean)) rm9_isSaid SM 5 [(0, .ref 0), (1, .int x1), (2, .int x2), (3, .int (p.1)), (4, .int (p.2.1))] [] p.2.2 (some (.int r.1), r.2)) (σ : HS) (r : Int32 × HS) (h : f9_isSaid_43 k5 x1 x2 x4 σ = some r) : AR l RX9 cX9_isSaid 5 (some .boolean) (wsU yX9_isSaid cX9_isSaid 5 (some .boolean)) rm9_isSaid SM 43 [(0, .ref 0), (1, .int x1), (2, .int x2), (4, .int x4)] [] σ (some (.int r.1), r.2) := by
  unfold f9_isSaid_43 at h
  refine AR.iconst (pc := 43) (v := 0) dX9_isSaid_43 (by decide) ?_
  exact AR.pick [0, 1, 2, 3] rfl (A9_isSaid_44 k5 x1 x2 x4 0 hk5 σ r h)
set_option maxHeartbeats 4000000 in
set_option maxRecDepth 100000 in
theorem A9_isSaid_5_b {l : Launch} (k5 : Int32 × Int32 × HS → Option (Int32 × HS)) (x1 : Int32) (x2 : Int32) (x3 : Int32) (x4 : Int32) (hk5 : ∀ (p : Int32 × Int32 × HS) (r : Int32 × HS), k5 p = some r → AR l RX9 cX9_isSaid 5 (some .boolean) (wsU yX9_isSaid cX9_isSaid 5 (some .boolean)) rm9_isSaid SM 5 [(0, .ref 0), (1, .int x1), (2, .int x2), (3, .int (p.1)), (4, .int (p.2.1))] [] p.2.2 (some (.int r.1), r.2)) (σ : HS) (r : Int32 × HS) (h : f9_isSaid_5_b k5 x1 x2 x3 x4 σ = some r) : AR l RX9 cX9_isSaid 5 (some .boolean) (wsU yX9_isSaid cX9_isSaid 5 (some .boolean)) rm9_isSaid SM 5 [(0, .ref 0), (1, .int x1), (2, .int x2), (3, .int x3), (4, .int x4)] [] σ (some (.int r.1), r.2) := by
  unfold f9_isSaid_5_b at h
  refine AR.iload (pc := 5) (j := 4) dX9_isSaid_5 rfl ?_
  refine AR.aload_n (pc := 7) (j := 0) dX9_isSaid_7 rfl rfl ?_
  obtain ⟨r1, h1, h⟩ := bd_some h
  refine AR.callV (pc := 8) (As := []) (st := [.int x4]) (ci := 9) dX9_isSaid_8 ⟨cd_X9_turnsNow, im_X9_turnsNow, se_X9_turnsNow, ini_X9⟩ ml_X9_215 (A9_turnsNow σ _ h1) ⟨rfl, pd_X9_turnsNow⟩ ⟨Nat.le_of_ble_eq_true rfl, Nat.le_of_ble_eq_true rfl⟩ ⟨rfl, rfl⟩ rfl rfl rfl (Nat.le_of_ble_eq_true rfl) ?_
  refine AR.icmp_ge (pc := 11) (tgt := 51) dX9_isSaid_11 (by decide) (fun c2 => ?_) (fun c2 => ?_)
  · replace h := ite_t c2 h
    refine AR.iload_n (pc := 51) (j := 3) dX9_isSaid_51 rfl rfl ?_
    obtain ⟨c3, h⟩ := gp_some h
    exact AR.zret (pc := 52) rfl c3 dX9_isSaid_52 (hrI (Option.some.inj h))
  · replace h := ite_f c2 h
    refine AR.iload_n (pc := 14) (j := 3) dX9_isSaid_14 rfl rfl ?_
    refine AR.if_ne (pc := 15) (tgt := 39) dX9_isSaid_15 (by decide) (fun c4 => ?_) (fun c4 => ?_)
    · replace h := ite_f c4 h
      exact AR.pick [0, 1, 2, 4] rfl (A9_isSaid_39 k5 x1 x2 x4 hk5 (r1.2) r h)
    · replace h := ite_t c4 h
      refine AR.aload_n (pc := 18) (j := 0) dX9_isSaid_18 rfl rfl ?_
      refine AR.iload (pc := 19) (j := 4) dX9_isSaid_19 rfl ?_
      obtain ⟨r5, h5, h⟩ := bd_some h
      refine AR.callV (pc := 21) (As := [.int x4]) (st := []) (ci := 9) dX9_isSaid_21 ⟨cd_X9_speakerOf, im_X9_speakerOf, se_X9_speakerOf, ini_X9⟩ ml_X9_200 (A9_speakerOf x4 (r1.2) _ h5) ⟨rfl, pd_X9_speakerOf⟩ ⟨Nat.le_of_ble_eq_true rfl, Nat.le_of_ble_eq_true rfl⟩ ⟨rfl, rfl⟩ rfl rfl rfl (Nat.le_of_ble_eq_true rfl) ?_
      refine AR.iload_n (pc := 24) (j := 1) dX9_isSaid_24 rfl rfl ?_
      refine AR.icmp_ne (pc := 25) (tgt := 43) dX9_isSaid_25 (by decide) (fun c6 => ?_) (fun c6 => ?_)
      · replace h := ite_f c6 h
        exact AR.pick [0, 1, 2, 4] rfl (A9_isSaid_43 k5 x1 x2 x4 hk5 (r5.2) r h)
      · replace h := ite_t c6 h
        refine AR.aload_n (pc := 28) (j := 0) dX9_isSaid_28 rfl rfl ?_
        refine AR.getf (pc := 29) (ci := 9) (j := 20) (d := 12 + 2) (v := .ref 12) (T := TX9) dX9_isSaid_29 rfl rfl rfl (by decide) (fun w hw => wsU_in (uw_X9 w hw)) (wsU_in fl_X9_43) rfl ?_
        refine AR.iload (pc := 32) (j := 4) dX9_isSaid_32 rfl ?_
        obtain ⟨c7, h⟩ := gn_some h
        refine AR.iaload (pc := 34) dX9_isSaid_34 rfl c7 ?_
        refine AR.iload_n (pc := 35) (j := 2) dX9_isSaid_35 rfl rfl ?_
        refine AR.icmp_ne (pc := 36) (tgt := 43) dX9_isSaid_36 (by decide) (fun c8 => ?_) (fun c8 => ?_)
        · replace h := ite_f c8 h
          exact AR.pick [0, 1, 2, 4] rfl (A9_isSaid_43 k5 x1 x2 x4 hk5 (r5.2) r h)
        · replace h := ite_t c8 h
          exact AR.pick [0, 1, 2, 4] rfl (A9_isSaid_39 k5 x1 x2 x4 hk5 (r5.2) r h)
theorem A9_isSaid_5 {l : Launch} (x1 : Int32) (x2 : Int32) (p : Int32 × Int32 × HS) (r : Int32 × HS) (h : f9_isSaid_5 x1 x2 p = some r) : AR l RX9 cX9_isSaid 5 (some .boolean) (wsU yX9_isSaid cX9_isSaid 5 (some .boolean)) rm9_isSaid SM 5 [(0, .ref 0), (1, .int x1), (2, .int x2), (3, .int (p.1)), (4, .int (p.2.1))] [] p.2.2 (some (.int r.1), r.2) := by
  unfold f9_isSaid_5 at h
  exact wloop_run (body := fun k5 p => f9_isSaid_5_b k5 x1 x2 p.1 p.2.1 p.2.2) (Q := fun p r => AR l RX9 cX9_isSaid 5 (some .boolean) (wsU yX9_isSaid cX9_isSaid 5 (some .boolean)) rm9_isSaid SM 5 [(0, .ref 0), (1, .int x1), (2, .int x2), (3, .int (p.1)), (4, .int (p.2.1))] [] p.2.2 (some (.int r.1), r.2)) (fun k5 hk5 p r h => A9_isSaid_5_b k5 x1 x2 p.1 p.2.1 hk5 p.2.2 r h) fuelN p r h
set_option maxHeartbeats 4000000 in
set_option maxRecDepth 100000 in
theorem A9_isSaid {l : Launch} (x1 : Int32) (x2 : Int32) (σ : HS) (r : Int32 × HS) (h : f9_isSaid x1 x2 σ = some r) : MA l yX9_isSaid (wsU yX9_isSaid cX9_isSaid 5 (some .boolean)) rm9_isSaid SM [.ref 0, .int x1, .int x2] σ (some (.int r.1), r.2) := by
  refine MA.of (L := [(0, .ref 0), (1, .int x1), (2, .int x2)]) pn_X9_isSaid rfl (fun _ => Nat.le_of_ble_eq_true rfl) (fun _ => rfl) ?_
  unfold f9_isSaid at h
  refine AR.iconst (pc := 0) (v := 0) dX9_isSaid_0 (by decide) ?_
  refine AR.istore_n (pc := 1) (L2 := [(3, .int 0), (0, .ref 0), (1, .int x1), (2, .int x2)]) dX9_isSaid_1 rfl (by decide) rfl ?_
  refine AR.iconst (pc := 2) (v := 0) dX9_isSaid_2 (by decide) ?_
  refine AR.istore (pc := 3) (L2 := [(4, .int 0), (3, .int 0), (0, .ref 0), (1, .int x1), (2, .int x2)]) dX9_isSaid_3 (by decide) rfl ?_
  exact AR.pick [2, 3, 4, 1, 0] rfl (A9_isSaid_5 x1 x2 (0, 0, σ) r h)
noncomputable def f9_layOrder_12_b (k12 : Int32 × Int32 × Int32 × HS → Option (Int32 × HS)) (x2 : Int32) (x3 : Int32) (x4 : Int32) (σ : HS) : Option (Int32 × HS) :=
  if (x4 : Int32) < 0 then
    some (1, σ)
  else
    if ((σ.1 0 1) : Int32) = 0 then none else
    if (x4 : Int32) < 0 ∨ 5 ≤ (x4 : Int32).toNatClampNeg then none else
    if (((uI σ 6 (x4 : Int32).toNatClampNeg (x2 - x2 / (σ.1 0 1) * (σ.1 0 1))).1 0 1) : Int32) = 0 then none else
    if (x4 : Int32) < 0 ∨ 5 ≤ (x4 : Int32).toNatClampNeg then none else
    if (((x3 >>> (((uI σ 6 (x4 : Int32).toNatClampNeg (x2 - x2 / (σ.1 0 1) * (σ.1 0 1))).1 6 (x4 : Int32).toNatClampNeg) &&& 31)) &&& 1) : Int32) = 1 then
      some (0, (uI σ 6 (x4 : Int32).toNatClampNeg (x2 - x2 / (σ.1 0 1) * (σ.1 0 1))))
    else
      if (x4 : Int32) < 0 ∨ 5 ≤ (x4 : Int32).toNatClampNeg then none else
      k12 ((x2 / ((uI σ 6 (x4 : Int32).toNatClampNeg (x2 - x2 / (σ.1 0 1) * (σ.1 0 1))).1 0 1)), (x3 ||| (1 <<< (((uI σ 6 (x4 : Int32).toNatClampNeg (x2 - x2 / (σ.1 0 1) * (σ.1 0 1))).1 6 (x4 : Int32).toNatClampNeg) &&& 31))), (x4 + (-1)), (uI σ 6 (x4 : Int32).toNatClampNeg (x2 - x2 / (σ.1 0 1) * (σ.1 0 1))))
noncomputable def f9_layOrder_12 (p : Int32 × Int32 × Int32 × HS) : Option (Int32 × HS) :=
  wloop (fun k12 p => f9_layOrder_12_b k12 p.1 p.2.1 p.2.2.1 p.2.2.2) fuelN p
noncomputable def f9_layOrder (x1 : Int32) (σ : HS) : Option (Int32 × HS) :=
  f9_layOrder_12 (x1, 0, ((σ.1 0 1) - 1), σ)
set_option maxHeartbeats 4000000 in
set_option maxRecDepth 100000 in
theorem A9_layOrder_12_b {l : Launch} (k12 : Int32 × Int32 × Int32 × HS → Option (Int32 × HS)) (x2 : Int32) (x3 : Int32) (x4 : Int32) (hk12 : ∀ (p : Int32 × Int32 × Int32 × HS) (r : Int32 × HS), k12 p = some r → AR l RX9 cX9_layOrder 5 (some .boolean) (wsU yX9_layOrder cX9_layOrder 5 (some .boolean)) rm9_layOrder SM 12 [(0, .ref 0), (2, .int (p.1)), (3, .int (p.2.1)), (4, .int (p.2.2.1))] [] p.2.2.2 (some (.int r.1), r.2)) (σ : HS) (r : Int32 × HS) (h : f9_layOrder_12_b k12 x2 x3 x4 σ = some r) : AR l RX9 cX9_layOrder 5 (some .boolean) (wsU yX9_layOrder cX9_layOrder 5 (some .boolean)) rm9_layOrder SM 12 [(0, .ref 0), (2, .int x2), (3, .int x3), (4, .int x4)] [] σ (some (.int r.1), r.2) := by
  unfold f9_layOrder_12_b at h
  refine AR.iload (pc := 12) (j := 3) dX9_layOrder_12 rfl ?_
  refine AR.if_lt (pc := 14) (tgt := 72) dX9_layOrder_14 (by decide) (fun c1 => ?_) (fun c1 => ?_)
  · replace h := ite_t c1 h
    refine AR.iconst (pc := 72) (v := 1) dX9_layOrder_72 (by decide) ?_
    exact AR.zret (pc := 73) rfl (Or.inr rfl) dX9_layOrder_73 (hrI (Option.some.inj h))
  · replace h := ite_f c1 h
    refine AR.aload_n (pc := 17) (j := 0) dX9_layOrder_17 rfl rfl ?_
    refine AR.getf (pc := 18) (ci := 9) (j := 10) (d := 6 + 2) (v := .ref 6) (T := TX9) dX9_layOrder_18 rfl rfl rfl (by decide) (fun w hw => wsU_in (uw_X9 w hw)) (wsU_in fl_X9_25) rfl ?_
    refine AR.iload (pc := 21) (j := 3) dX9_layOrder_21 rfl ?_
    refine AR.iload_n (pc := 23) (j := 1) dX9_layOrder_23 rfl rfl ?_
    refine AR.aload_n (pc := 24) (j := 0) dX9_layOrder_24 rfl rfl ?_
    refine AR.getf (pc := 25) (ci := 9) (j := 1) (d := 0) (v := .int (σ.1 0 1)) (T := TX9) dX9_layOrder_25 rfl rfl rfl (by decide) (fun w hw => wsU_in (uw_X9 w hw)) (wsU_in fl_X9_113) rfl ?_
    obtain ⟨c2, h⟩ := gn_some h
    refine AR.irem (pc := 28) dX9_layOrder_28 c2 ?_
    obtain ⟨c3, h⟩ := gn_some h
    refine AR.iastore (pc := 29) dX9_layOrder_29 rfl c3 ?_
    refine AR.iload_n (pc := 30) (j := 1) dX9_layOrder_30 rfl rfl ?_
    refine AR.aload_n (pc := 31) (j := 0) dX9_layOrder_31 rfl rfl ?_
    refine AR.getf (pc := 32) (ci := 9) (j := 1) (d := 0) (v := .int ((uI σ 6 (x4 : Int32).toNatClampNeg (x2 - x2 / (σ.1 0 1) * (σ.1 0 1))).1 0 1)) (T := TX9) dX9_layOrder_32 rfl rfl rfl (by decide) (fun w hw => wsU_in (uw_X9 w hw)) (wsU_in fl_X9_113) rfl ?_
    obtain ⟨c4, h⟩ := gn_some h
    refine AR.idiv (pc := 35) dX9_layOrder_35 c4 ?_
    refine AR.istore_n (pc := 36) (L2 := [(2, .int (x2 / ((uI σ 6 (x4 : Int32).toNatClampNeg (x2 - x2 / (σ.1 0 1) * (σ.1 0 1))).1 0 1))), (0, .ref 0), (3, .int x3), (4, .int x4)]) dX9_layOrder_36 rfl (by decide) rfl ?_
    refine AR.iload_n (pc := 37) (j := 2) dX9_layOrder_37 rfl rfl ?_
    refine AR.aload_n (pc := 38) (j := 1) dX9_layOrder_38 rfl rfl ?_
    refine AR.getf (pc := 39) (ci := 9) (j := 10) (d := 6 + 2) (v := .ref 6) (T := TX9) dX9_layOrder_39 rfl rfl rfl (by decide) (fun w hw => wsU_in (uw_X9 w hw)) (wsU_in fl_X9_25) rfl ?_
    refine AR.iload (pc := 42) (j := 3) dX9_layOrder_42 rfl ?_
    obtain ⟨c5, h⟩ := gn_some h
    refine AR.iaload (pc := 44) dX9_layOrder_44 rfl c5 ?_
    refine AR.ishr (pc := 45) dX9_layOrder_45 ?_
    refine AR.iconst (pc := 46) (v := 1) dX9_layOrder_46 (by decide) ?_
    refine AR.iand (pc := 47) dX9_layOrder_47 ?_
    refine AR.iconst (pc := 48) (v := 1) dX9_layOrder_48 (by decide) ?_
    refine AR.icmp_ne (pc := 49) (tgt := 54) dX9_layOrder_49 (by decide) (fun c6 => ?_) (fun c6 => ?_)
    · replace h := ite_f c6 h
      refine AR.iload_n (pc := 54) (j := 2) dX9_layOrder_54 rfl rfl ?_
      refine AR.iconst (pc := 55) (v := 1) dX9_layOrder_55 (by decide) ?_
      refine AR.aload_n (pc := 56) (j := 1) dX9_layOrder_56 rfl rfl ?_
      refine AR.getf (pc := 57) (ci := 9) (j := 10) (d := 6 + 2) (v := .ref 6) (T := TX9) dX9_layOrder_57 rfl rfl rfl (by decide) (fun w hw => wsU_in (uw_X9 w hw)) (wsU_in fl_X9_25) rfl ?_
      refine AR.iload (pc := 60) (j := 3) dX9_layOrder_60 rfl ?_
      obtain ⟨c7, h⟩ := gn_some h
      refine AR.iaload (pc := 62) dX9_layOrder_62 rfl c7 ?_
      refine AR.ishl (pc := 63) dX9_layOrder_63 ?_
      refine AR.ior (pc := 64) dX9_layOrder_64 ?_
      refine AR.istore_n (pc := 65) (L2 := [(3, .int (x3 ||| (1 <<< (((uI σ 6 (x4 : Int32).toNatClampNeg (x2 - x2 / (σ.1 0 1) * (σ.1 0 1))).1 6 (x4 : Int32).toNatClampNeg) &&& 31)))), (2, .int (x2 / ((uI σ 6 (x4 : Int32).toNatClampNeg (x2 - x2 / (σ.1 0 1) * (σ.1 0 1))).1 0 1))), (0, .ref 0), (4, .int x4)]) dX9_layOrder_65 rfl (by decide) rfl ?_
      refine AR.iinc (pc := 66) (j := 3) (v := (x4 + (-1))) (L2 := [(4, .int (x4 + (-1))), (3, .int (x3 ||| (1 <<< (((uI σ 6 (x4 : Int32).toNatClampNeg (x2 - x2 / (σ.1 0 1) * (σ.1 0 1))).1 6 (x4 : Int32).toNatClampNeg) &&& 31)))), (2, .int (x2 / ((uI σ 6 (x4 : Int32).toNatClampNeg (x2 - x2 / (σ.1 0 1) * (σ.1 0 1))).1 0 1))), (0, .ref 0)]) dX9_layOrder_66 rfl rfl (by decide) rfl ?_
      refine AR.goto (pc := 69) (tgt := 12) dX9_layOrder_69 (by decide) ?_
      exact AR.pick [3, 2, 1, 0] rfl (hk12 ((x2 / ((uI σ 6 (x4 : Int32).toNatClampNeg (x2 - x2 / (σ.1 0 1) * (σ.1 0 1))).1 0 1)), (x3 ||| (1 <<< (((uI σ 6 (x4 : Int32).toNatClampNeg (x2 - x2 / (σ.1 0 1) * (σ.1 0 1))).1 6 (x4 : Int32).toNatClampNeg) &&& 31))), (x4 + (-1)), (uI σ 6 (x4 : Int32).toNatClampNeg (x2 - x2 / (σ.1 0 1) * (σ.1 0 1)))) r h)
    · replace h := ite_t c6 h
      refine AR.iconst (pc := 52) (v := 0) dX9_layOrder_52 (by decide) ?_
      exact AR.zret (pc := 53) rfl (Or.inl rfl) dX9_layOrder_53 (hrI (Option.some.inj h))
theorem A9_layOrder_12 {l : Launch} (p : Int32 × Int32 × Int32 × HS) (r : Int32 × HS) (h : f9_layOrder_12 p = some r) : AR l RX9 cX9_layOrder 5 (some .boolean) (wsU yX9_layOrder cX9_layOrder 5 (some .boolean)) rm9_layOrder SM 12 [(0, .ref 0), (2, .int (p.1)), (3, .int (p.2.1)), (4, .int (p.2.2.1))] [] p.2.2.2 (some (.int r.1), r.2) := by
  unfold f9_layOrder_12 at h
  exact wloop_run (body := fun k12 p => f9_layOrder_12_b k12 p.1 p.2.1 p.2.2.1 p.2.2.2) (Q := fun p r => AR l RX9 cX9_layOrder 5 (some .boolean) (wsU yX9_layOrder cX9_layOrder 5 (some .boolean)) rm9_layOrder SM 12 [(0, .ref 0), (2, .int (p.1)), (3, .int (p.2.1)), (4, .int (p.2.2.1))] [] p.2.2.2 (some (.int r.1), r.2)) (fun k12 hk12 p r h => A9_layOrder_12_b k12 p.1 p.2.1 p.2.2.1 hk12 p.2.2.2 r h) fuelN p r h
set_option maxHeartbeats 4000000 in
set_option maxRecDepth 100000 in
theorem A9_layOrder {l : Launch} (x1 : Int32) (σ : HS) (r : Int32 × HS) (h : f9_layOrder x1 σ = some r) : MA l yX9_layOrder (wsU yX9_layOrder cX9_layOrder 5 (some .boolean)) rm9_layOrder SM [.ref 0, .int x1] σ (some (.int r.1), r.2) := by
  refine MA.of (L := [(0, .ref 0), (1, .int x1)]) pn_X9_layOrder rfl (fun _ => Nat.le_of_ble_eq_true rfl) (fun _ => rfl) ?_
  unfold f9_layOrder at h
  refine AR.iload_n (pc := 0) (j := 1) dX9_layOrder_0 rfl rfl ?_
  refine AR.istore_n (pc := 1) (L2 := [(2, .int x1), (0, .ref 0), (1, .int x1)]) dX9_layOrder_1 rfl (by decide) rfl ?_
  refine AR.iconst (pc := 2) (v := 0) dX9_layOrder_2 (by decide) ?_
  refine AR.istore_n (pc := 3) (L2 := [(3, .int 0), (2, .int x1), (0, .ref 0), (1, .int x1)]) dX9_layOrder_3 rfl (by decide) rfl ?_
  refine AR.aload_n (pc := 4) (j := 2) dX9_layOrder_4 rfl rfl ?_
  refine AR.getf (pc := 5) (ci := 9) (j := 1) (d := 0) (v := .int (σ.1 0 1)) (T := TX9) dX9_layOrder_5 rfl rfl rfl (by decide) (fun w hw => wsU_in (uw_X9 w hw)) (wsU_in fl_X9_113) rfl ?_
  refine AR.iconst (pc := 8) (v := 1) dX9_layOrder_8 (by decide) ?_
  refine AR.isub (pc := 9) dX9_layOrder_9 ?_
  refine AR.istore (pc := 10) (L2 := [(4, .int ((σ.1 0 1) - 1)), (3, .int 0), (2, .int x1), (0, .ref 0), (1, .int x1)]) dX9_layOrder_10 (by decide) rfl ?_
  exact AR.pick [3, 2, 1, 0] rfl (A9_layOrder_12 (x1, 0, ((σ.1 0 1) - 1), σ) r h)
noncomputable def f9_otherPlaces_33 (k4 : Int32 × Int32 × HS → Option (Int32 × HS)) (x2 : Int32) (z0 : Int32) (z1 : Int32) (σ : HS) : Option (Int32 × HS) :=
  k4 ((z1 + z0), (x2 + 1), σ)
noncomputable def f9_otherPlaces_4_b (k4 : Int32 × Int32 × HS → Option (Int32 × HS)) (x1 : Int32) (x2 : Int32) (σ : HS) : Option (Int32 × HS) :=
  if ((σ.1 0 1) : Int32) ≤ x2 then
    some (x1, σ)
  else
    if (x2 : Int32) < 0 ∨ 5 ≤ (x2 : Int32).toNatClampNeg then none else
    if (x2 : Int32) < 0 ∨ 5 ≤ (x2 : Int32).toNatClampNeg then none else
    if ((σ.1 6 (x2 : Int32).toNatClampNeg) : Int32) = (σ.1 18 (x2 : Int32).toNatClampNeg) then
      f9_otherPlaces_33 k4 x2 0 x1 σ
    else
      f9_otherPlaces_33 k4 x2 1 x1 σ
noncomputable def f9_otherPlaces_4 (p : Int32 × Int32 × HS) : Option (Int32 × HS) :=
  wloop (fun k4 p => f9_otherPlaces_4_b k4 p.1 p.2.1 p.2.2) fuelN p
noncomputable def f9_otherPlaces (σ : HS) : Option (Int32 × HS) :=
  f9_otherPlaces_4 (0, 0, σ)
set_option maxHeartbeats 4000000 in
set_option maxRecDepth 100000 in
theorem A9_otherPlaces_33 {l : Launch} (k4 : Int32 × Int32 × HS → Option (Int32 × HS)) (x2 : Int32) (z0 : Int32) (z1 : Int32) (hk4 : ∀ (p : Int32 × Int32 × HS) (r : Int32 × HS), k4 p = some r → AR l RX9 cX9_otherPlaces 3 (some .int) (wsU yX9_otherPlaces cX9_otherPlaces 3 (some .int)) rm9_otherPlaces SM 4 [(0, .ref 0), (1, .int (p.1)), (2, .int (p.2.1))] [] p.2.2 (some (.int r.1), r.2)) (σ : HS) (r : Int32 × HS) (h : f9_otherPlaces_33 k4 x2 z0 z1 σ = some r) : AR l RX9 cX9_otherPlaces 3 (some .int) (wsU yX9_otherPlaces cX9_otherPlaces 3 (some .int)) rm9_otherPlaces SM 33 [(0, .ref 0), (2, .int x2)] [.int z0, .int z1] σ (some (.int r.1), r.2) := by
  unfold f9_otherPlaces_33 at h
  refine AR.iadd (pc := 33) dX9_otherPlaces_33 ?_
  refine AR.istore_n (pc := 34) (L2 := [(1, .int (z1 + z0)), (0, .ref 0), (2, .int x2)]) dX9_otherPlaces_34 rfl (by decide) rfl ?_
  refine AR.iinc (pc := 35) (j := 2) (v := (x2 + 1)) (L2 := [(2, .int (x2 + 1)), (1, .int (z1 + z0)), (0, .ref 0)]) dX9_otherPlaces_35 rfl rfl (by decide) rfl ?_
  refine AR.goto (pc := 38) (tgt := 4) dX9_otherPlaces_38 (by decide) ?_
  exact AR.pick [2, 1, 0] rfl (hk4 ((z1 + z0), (x2 + 1), σ) r h)
set_option maxHeartbeats 4000000 in
set_option maxRecDepth 100000 in
theorem A9_otherPlaces_4_b {l : Launch} (k4 : Int32 × Int32 × HS → Option (Int32 × HS)) (x1 : Int32) (x2 : Int32) (hk4 : ∀ (p : Int32 × Int32 × HS) (r : Int32 × HS), k4 p = some r → AR l RX9 cX9_otherPlaces 3 (some .int) (wsU yX9_otherPlaces cX9_otherPlaces 3 (some .int)) rm9_otherPlaces SM 4 [(0, .ref 0), (1, .int (p.1)), (2, .int (p.2.1))] [] p.2.2 (some (.int r.1), r.2)) (σ : HS) (r : Int32 × HS) (h : f9_otherPlaces_4_b k4 x1 x2 σ = some r) : AR l RX9 cX9_otherPlaces 3 (some .int) (wsU yX9_otherPlaces cX9_otherPlaces 3 (some .int)) rm9_otherPlaces SM 4 [(0, .ref 0), (1, .int x1), (2, .int x2)] [] σ (some (.int r.1), r.2) := by
  unfold f9_otherPlaces_4_b at h
  refine AR.iload_n (pc := 4) (j := 2) dX9_otherPlaces_4 rfl rfl ?_
  refine AR.aload_n (pc := 5) (j := 0) dX9_otherPlaces_5 rfl rfl ?_
  refine AR.getf (pc := 6) (ci := 9) (j := 1) (d := 0) (v := .int (σ.1 0 1)) (T := TX9) dX9_otherPlaces_6 rfl rfl rfl (by decide) (fun w hw => wsU_in (uw_X9 w hw)) (wsU_in fl_X9_113) rfl ?_
  refine AR.icmp_ge (pc := 9) (tgt := 41) dX9_otherPlaces_9 (by decide) (fun c1 => ?_) (fun c1 => ?_)
  · replace h := ite_t c1 h
    refine AR.iload_n (pc := 41) (j := 1) dX9_otherPlaces_41 rfl rfl ?_
    exact AR.iret (pc := 42) rfl dX9_otherPlaces_42 (hrI (Option.some.inj h))
  · replace h := ite_f c1 h
    refine AR.iload_n (pc := 12) (j := 1) dX9_otherPlaces_12 rfl rfl ?_
    refine AR.aload_n (pc := 13) (j := 0) dX9_otherPlaces_13 rfl rfl ?_
    refine AR.getf (pc := 14) (ci := 9) (j := 10) (d := 6 + 2) (v := .ref 6) (T := TX9) dX9_otherPlaces_14 rfl rfl rfl (by decide) (fun w hw => wsU_in (uw_X9 w hw)) (wsU_in fl_X9_25) rfl ?_
    refine AR.iload_n (pc := 17) (j := 2) dX9_otherPlaces_17 rfl rfl ?_
    obtain ⟨c2, h⟩ := gn_some h
    refine AR.iaload (pc := 18) dX9_otherPlaces_18 rfl c2 ?_
    refine AR.aload_n (pc := 19) (j := 0) dX9_otherPlaces_19 rfl rfl ?_
    refine AR.getf (pc := 20) (ci := 9) (j := 28) (d := 18 + 2) (v := .ref 18) (T := TX9) dX9_otherPlaces_20 rfl rfl rfl (by decide) (fun w hw => wsU_in (uw_X9 w hw)) (wsU_in fl_X9_61) rfl ?_
    refine AR.iload_n (pc := 23) (j := 2) dX9_otherPlaces_23 rfl rfl ?_
    obtain ⟨c3, h⟩ := gn_some h
    refine AR.iaload (pc := 24) dX9_otherPlaces_24 rfl c3 ?_
    refine AR.icmp_ne (pc := 25) (tgt := 32) dX9_otherPlaces_25 (by decide) (fun c4 => ?_) (fun c4 => ?_)
    · replace h := ite_f c4 h
      refine AR.iconst (pc := 32) (v := 1) dX9_otherPlaces_32 (by decide) ?_
      exact AR.pick [0, 2] rfl (A9_otherPlaces_33 k4 x2 1 x1 hk4 σ r h)
    · replace h := ite_t c4 h
      refine AR.iconst (pc := 28) (v := 0) dX9_otherPlaces_28 (by decide) ?_
      refine AR.goto (pc := 29) (tgt := 33) dX9_otherPlaces_29 (by decide) ?_
      exact AR.pick [0, 2] rfl (A9_otherPlaces_33 k4 x2 0 x1 hk4 σ r h)
theorem A9_otherPlaces_4 {l : Launch} (p : Int32 × Int32 × HS) (r : Int32 × HS) (h : f9_otherPlaces_4 p = some r) : AR l RX9 cX9_otherPlaces 3 (some .int) (wsU yX9_otherPlaces cX9_otherPlaces 3 (some .int)) rm9_otherPlaces SM 4 [(0, .ref 0), (1, .int (p.1)), (2, .int (p.2.1))] [] p.2.2 (some (.int r.1), r.2) := by
  unfold f9_otherPlaces_4 at h
  exact wloop_run (body := fun k4 p => f9_otherPlaces_4_b k4 p.1 p.2.1 p.2.2) (Q := fun p r => AR l RX9 cX9_otherPlaces 3 (some .int) (wsU yX9_otherPlaces cX9_otherPlaces 3 (some .int)) rm9_otherPlaces SM 4 [(0, .ref 0), (1, .int (p.1)), (2, .int (p.2.1))] [] p.2.2 (some (.int r.1), r.2)) (fun k4 hk4 p r h => A9_otherPlaces_4_b k4 p.1 p.2.1 hk4 p.2.2 r h) fuelN p r h
set_option maxHeartbeats 4000000 in
set_option maxRecDepth 100000 in
theorem A9_otherPlaces {l : Launch} (σ : HS) (r : Int32 × HS) (h : f9_otherPlaces σ = some r) : MA l yX9_otherPlaces (wsU yX9_otherPlaces cX9_otherPlaces 3 (some .int)) rm9_otherPlaces SM [.ref 0] σ (some (.int r.1), r.2) := by
  refine MA.of (L := [(0, .ref 0)]) pn_X9_otherPlaces rfl (fun _ => Nat.le_of_ble_eq_true rfl) (fun _ => rfl) ?_
  unfold f9_otherPlaces at h
  refine AR.iconst (pc := 0) (v := 0) dX9_otherPlaces_0 (by decide) ?_
  refine AR.istore_n (pc := 1) (L2 := [(1, .int 0), (0, .ref 0)]) dX9_otherPlaces_1 rfl (by decide) rfl ?_
  refine AR.iconst (pc := 2) (v := 0) dX9_otherPlaces_2 (by decide) ?_
  refine AR.istore_n (pc := 3) (L2 := [(2, .int 0), (1, .int 0), (0, .ref 0)]) dX9_otherPlaces_3 rfl (by decide) rfl ?_
  exact AR.pick [2, 1, 0] rfl (A9_otherPlaces_4 (0, 0, σ) r h)
noncomputable def f9_motion_165_b (k165 : Int32 × HS → Option (Int32 × HS)) (x3 : Int32) (x5 : Int32) (x6 : Int32) (σ : HS) : Option (Int32 × HS) :=
  if ((σ.1 0 1) : Int32) ≤ x6 then
    if (x5 : Int32) = 99 then
      some ((-9), σ)
    else
      if 0 ≤ (x3 : Int32) then
        if (x3 : Int32) < 0 ∨ 6 ≤ (x3 : Int32).toNatClampNeg then none else
        some ((σ.1 17 (x3 : Int32).toNatClampNeg), σ)
      else
        some (x5, σ)
  else
    if (x6 : Int32) < 0 ∨ 5 ≤ (x6 : Int32).toNatClampNeg then none else
    if (x6 : Int32) < 0 ∨ 5 ≤ (x6 : Int32).toNatClampNeg then none else
    k165 ((x6 + 1), (uI σ 6 (x6 : Int32).toNatClampNeg (σ.1 18 (x6 : Int32).toNatClampNeg)))
noncomputable def f9_motion_165 (x3 : Int32) (x5 : Int32) (p : Int32 × HS) : Option (Int32 × HS) :=
  wloop (fun k165 p => f9_motion_165_b k165 x3 x5 p.1 p.2) fuelN p
noncomputable def f9_motion_156 (k80 : Int32 × Int32 × HS → Option (Int32 × HS)) (x1 : Int32) (x2 : Int32) (x3 : Int32) (x4 : Int32) (x5 : Int32) (x6 : Int32) (σ : HS) : Option (Int32 × HS) :=
  k80 (x5, (x6 + 1), σ)
noncomputable def f9_motion_127_b (k80 : Int32 × Int32 × HS → Option (Int32 × HS)) (k127 : Int32 × HS → Option (Int32 × HS)) (x1 : Int32) (x2 : Int32) (x3 : Int32) (x4 : Int32) (x5 : Int32) (x6 : Int32) (x7 : Int32) (σ : HS) : Option (Int32 × HS) :=
  if ((σ.1 0 1) : Int32) ≤ x7 then
    f9_motion_156 k80 x1 x2 x3 x4 x5 x6 σ
  else
    if (x7 : Int32) < 0 ∨ 5 ≤ (x7 : Int32).toNatClampNeg then none else
    if (x7 : Int32) < 0 ∨ 6 ≤ (x7 : Int32).toNatClampNeg then none else
    k127 ((x7 + 1), (uI σ 17 (x7 : Int32).toNatClampNeg (σ.1 6 (x7 : Int32).toNatClampNeg)))
noncomputable def f9_motion_127 (k80 : Int32 × Int32 × HS → Option (Int32 × HS)) (x1 : Int32) (x2 : Int32) (x3 : Int32) (x4 : Int32) (x5 : Int32) (x6 : Int32) (p : Int32 × HS) : Option (Int32 × HS) :=
  wloop (fun k127 p => f9_motion_127_b k80 k127 x1 x2 x3 x4 x5 x6 p.1 p.2) fuelN p
noncomputable def f9_motion_80_b (k80 : Int32 × Int32 × HS → Option (Int32 × HS)) (x1 : Int32) (x2 : Int32) (x3 : Int32) (x4 : Int32) (x5 : Int32) (x6 : Int32) (σ : HS) : Option (Int32 × HS) :=
  if (x4 : Int32) ≤ x6 then
    f9_motion_165 x3 x5 (0, σ)
  else
    bd (f9_layOrder x6 σ) fun r2 =>
    if (r2.1 : Int32) = 0 then
      f9_motion_156 k80 x1 x2 x3 x4 x5 x6 (r2.2)
    else
      bd (f9_otherPlaces (r2.2)) fun r4 =>
      if (x5 : Int32) ≤ (r4.1) then
        f9_motion_156 k80 x1 x2 x3 x4 x5 x6 (r4.2)
      else
        bd (f9_goFree (r4.2)) fun r6 =>
        bd (f9_isSaid x1 x2 r6) fun r7 =>
        if (r7.1 : Int32) = 0 then
          f9_motion_156 k80 x1 x2 x3 x4 x5 x6 (r7.2)
        else
          bd (f9_otherPlaces (r7.2)) fun r9 =>
          f9_motion_127 k80 x1 x2 x3 x4 (r9.1) x6 (0, r9.2)
noncomputable def f9_motion_80 (x1 : Int32) (x2 : Int32) (x3 : Int32) (x4 : Int32) (p : Int32 × Int32 × HS) : Option (Int32 × HS) :=
  wloop (fun k80 p => f9_motion_80_b k80 x1 x2 x3 x4 p.1 p.2.1 p.2.2) fuelN p
noncomputable def f9_motion_35_b (k35 : Int32 × Int32 × HS → Option (Int32 × HS)) (x1 : Int32) (x2 : Int32) (x3 : Int32) (x4 : Int32) (x5 : Int32) (σ : HS) : Option (Int32 × HS) :=
  if ((σ.1 0 1) : Int32) ≤ x5 then
    f9_motion_80 x1 x2 x3 x4 (99, 0, σ)
  else
    if (x5 : Int32) < 0 ∨ 5 ≤ (x5 : Int32).toNatClampNeg then none else
    if (x5 : Int32) < 0 ∨ 5 ≤ (x5 : Int32).toNatClampNeg then none else
    k35 ((x4 * ((uI σ 18 (x5 : Int32).toNatClampNeg (σ.1 6 (x5 : Int32).toNatClampNeg)).1 0 1)), (x5 + 1), (uI σ 18 (x5 : Int32).toNatClampNeg (σ.1 6 (x5 : Int32).toNatClampNeg)))
noncomputable def f9_motion_35 (x1 : Int32) (x2 : Int32) (x3 : Int32) (p : Int32 × Int32 × HS) : Option (Int32 × HS) :=
  wloop (fun k35 p => f9_motion_35_b k35 x1 x2 x3 p.1 p.2.1 p.2.2) fuelN p
noncomputable def f9_motion (x1 : Int32) (x2 : Int32) (x3 : Int32) (σ : HS) : Option (Int32 × HS) :=
  bd (f9_noWord x1 x2 σ) fun r1 =>
  if (r1.1 : Int32) = 0 then
    bd (f9_in ((x3 : Int32).toInt64) (-1) (((((r1.2).1 0 1) : Int32).toInt64) - 1) (r1.2)) fun r3 =>
    if (r3.1 : Int32) = 0 then
      some ((-1), r3.2)
    else
      f9_motion_35 x1 x2 x3 (1, 0, r3.2)
  else
    some ((-1), r1.2)
set_option maxHeartbeats 4000000 in
set_option maxRecDepth 100000 in
theorem A9_motion_165_b {l : Launch} (k165 : Int32 × HS → Option (Int32 × HS)) (x3 : Int32) (x5 : Int32) (x6 : Int32) (hk165 : ∀ (p : Int32 × HS) (r : Int32 × HS), k165 p = some r → AR l RX9 cX9_motion 8 (some .int) (wsU yX9_motion cX9_motion 8 (some .int)) rm9_motion SM 165 [(0, .ref 0), (3, .int x3), (5, .int x5), (6, .int (p.1))] [] p.2 (some (.int r.1), r.2)) (σ : HS) (r : Int32 × HS) (h : f9_motion_165_b k165 x3 x5 x6 σ = some r) : AR l RX9 cX9_motion 8 (some .int) (wsU yX9_motion cX9_motion 8 (some .int)) rm9_motion SM 165 [(0, .ref 0), (3, .int x3), (5, .int x5), (6, .int x6)] [] σ (some (.int r.1), r.2) := by
  unfold f9_motion_165_b at h
  refine AR.iload (pc := 165) (j := 3) dX9_motion_165 rfl ?_
  refine AR.aload_n (pc := 167) (j := 0) dX9_motion_167 rfl rfl ?_
  refine AR.getf (pc := 168) (ci := 9) (j := 1) (d := 0) (v := .int (σ.1 0 1)) (T := TX9) dX9_motion_168 rfl rfl rfl (by decide) (fun w hw => wsU_in (uw_X9 w hw)) (wsU_in fl_X9_113) rfl ?_
  refine AR.icmp_ge (pc := 171) (tgt := 194) dX9_motion_171 (by decide) (fun c1 => ?_) (fun c1 => ?_)
  · replace h := ite_t c1 h
    refine AR.iload (pc := 194) (j := 2) dX9_motion_194 rfl ?_
    refine AR.bipush (pc := 196) (v := 99) dX9_motion_196 (by decide) ?_
    refine AR.icmp_ne (pc := 198) (tgt := 206) dX9_motion_198 (by decide) (fun c2 => ?_) (fun c2 => ?_)
    · replace h := ite_f c2 h
      refine AR.iload_n (pc := 206) (j := 1) dX9_motion_206 rfl rfl ?_
      refine AR.if_ge (pc := 207) (tgt := 215) dX9_motion_207 (by decide) (fun c3 => ?_) (fun c3 => ?_)
      · replace h := ite_t c3 h
        refine AR.aload_n (pc := 215) (j := 0) dX9_motion_215 rfl rfl ?_
        refine AR.getf (pc := 216) (ci := 9) (j := 27) (d := 17 + 2) (v := .ref 17) (T := TX9) dX9_motion_216 rfl rfl rfl (by decide) (fun w hw => wsU_in (uw_X9 w hw)) (wsU_in fl_X9_58) rfl ?_
        refine AR.iload_n (pc := 219) (j := 1) dX9_motion_219 rfl rfl ?_
        obtain ⟨c4, h⟩ := gn_some h
        refine AR.iaload (pc := 220) dX9_motion_220 rfl c4 ?_
        exact AR.iret (pc := 221) rfl dX9_motion_221 (hrI (Option.some.inj h))
      · replace h := ite_f c3 h
        refine AR.iload (pc := 210) (j := 2) dX9_motion_210 rfl ?_
        refine AR.goto (pc := 212) (tgt := 221) dX9_motion_212 (by decide) ?_
        exact AR.iret (pc := 221) rfl dX9_motion_221 (hrI (Option.some.inj h))
    · replace h := ite_t c2 h
      refine AR.bipush (pc := 201) (v := (-9)) dX9_motion_201 (by decide) ?_
      refine AR.goto (pc := 203) (tgt := 221) dX9_motion_203 (by decide) ?_
      exact AR.iret (pc := 221) rfl dX9_motion_221 (hrI (Option.some.inj h))
  · replace h := ite_f c1 h
    refine AR.aload_n (pc := 174) (j := 0) dX9_motion_174 rfl rfl ?_
    refine AR.getf (pc := 175) (ci := 9) (j := 10) (d := 6 + 2) (v := .ref 6) (T := TX9) dX9_motion_175 rfl rfl rfl (by decide) (fun w hw => wsU_in (uw_X9 w hw)) (wsU_in fl_X9_25) rfl ?_
    refine AR.iload (pc := 178) (j := 3) dX9_motion_178 rfl ?_
    refine AR.aload_n (pc := 180) (j := 0) dX9_motion_180 rfl rfl ?_
    refine AR.getf (pc := 181) (ci := 9) (j := 28) (d := 18 + 2) (v := .ref 18) (T := TX9) dX9_motion_181 rfl rfl rfl (by decide) (fun w hw => wsU_in (uw_X9 w hw)) (wsU_in fl_X9_61) rfl ?_
    refine AR.iload (pc := 184) (j := 3) dX9_motion_184 rfl ?_
    obtain ⟨c5, h⟩ := gn_some h
    refine AR.iaload (pc := 186) dX9_motion_186 rfl c5 ?_
    obtain ⟨c6, h⟩ := gn_some h
    refine AR.iastore (pc := 187) dX9_motion_187 rfl c6 ?_
    refine AR.iinc (pc := 188) (j := 3) (v := (x6 + 1)) (L2 := [(6, .int (x6 + 1)), (0, .ref 0), (3, .int x3), (5, .int x5)]) dX9_motion_188 rfl rfl (by decide) rfl ?_
    refine AR.goto (pc := 191) (tgt := 165) dX9_motion_191 (by decide) ?_
    exact AR.pick [1, 2, 3, 0] rfl (hk165 ((x6 + 1), (uI σ 6 (x6 : Int32).toNatClampNeg (σ.1 18 (x6 : Int32).toNatClampNeg))) r h)
theorem A9_motion_165 {l : Launch} (x3 : Int32) (x5 : Int32) (p : Int32 × HS) (r : Int32 × HS) (h : f9_motion_165 x3 x5 p = some r) : AR l RX9 cX9_motion 8 (some .int) (wsU yX9_motion cX9_motion 8 (some .int)) rm9_motion SM 165 [(0, .ref 0), (3, .int x3), (5, .int x5), (6, .int (p.1))] [] p.2 (some (.int r.1), r.2) := by
  unfold f9_motion_165 at h
  exact wloop_run (body := fun k165 p => f9_motion_165_b k165 x3 x5 p.1 p.2) (Q := fun p r => AR l RX9 cX9_motion 8 (some .int) (wsU yX9_motion cX9_motion 8 (some .int)) rm9_motion SM 165 [(0, .ref 0), (3, .int x3), (5, .int x5), (6, .int (p.1))] [] p.2 (some (.int r.1), r.2)) (fun k165 hk165 p r h => A9_motion_165_b k165 x3 x5 p.1 hk165 p.2 r h) fuelN p r h
set_option maxHeartbeats 4000000 in
set_option maxRecDepth 100000 in
theorem A9_motion_156 {l : Launch} (k80 : Int32 × Int32 × HS → Option (Int32 × HS)) (x1 : Int32) (x2 : Int32) (x3 : Int32) (x4 : Int32) (x5 : Int32) (x6 : Int32) (hk80 : ∀ (p : Int32 × Int32 × HS) (r : Int32 × HS), k80 p = some r → AR l RX9 cX9_motion 8 (some .int) (wsU yX9_motion cX9_motion 8 (some .int)) rm9_motion SM 80 [(0, .ref 0), (1, .int x1), (2, .int x2), (3, .int x3), (4, .int x4), (5, .int (p.1)), (6, .int (p.2.1))] [] p.2.2 (some (.int r.1), r.2)) (σ : HS) (r : Int32 × HS) (h : f9_motion_156 k80 x1 x2 x3 x4 x5 x6 σ = some r) : AR l RX9 cX9_motion 8 (some .int) (wsU yX9_motion cX9_motion 8 (some .int)) rm9_motion SM 156 [(0, .ref 0), (1, .int x1), (2, .int x2), (3, .int x3), (4, .int x4), (5, .int x5), (6, .int x6)] [] σ (some (.int r.1), r.2) := by
  unfold f9_motion_156 at h
  refine AR.iinc (pc := 156) (j := 6) (v := (x6 + 1)) (L2 := [(6, .int (x6 + 1)), (0, .ref 0), (1, .int x1), (2, .int x2), (3, .int x3), (4, .int x4), (5, .int x5)]) dX9_motion_156 rfl rfl (by decide) rfl ?_
  refine AR.goto (pc := 159) (tgt := 80) dX9_motion_159 (by decide) ?_
  exact AR.pick [1, 2, 3, 4, 5, 6, 0] rfl (hk80 (x5, (x6 + 1), σ) r h)
set_option maxHeartbeats 4000000 in
set_option maxRecDepth 100000 in
theorem A9_motion_127_b {l : Launch} (k80 : Int32 × Int32 × HS → Option (Int32 × HS)) (k127 : Int32 × HS → Option (Int32 × HS)) (x1 : Int32) (x2 : Int32) (x3 : Int32) (x4 : Int32) (x5 : Int32) (x6 : Int32) (x7 : Int32) (hk80 : ∀ (p : Int32 × Int32 × HS) (r : Int32 × HS), k80 p = some r → AR l RX9 cX9_motion 8 (some .int) (wsU yX9_motion cX9_motion 8 (some .int)) rm9_motion SM 80 [(0, .ref 0), (1, .int x1), (2, .int x2), (3, .int x3), (4, .int x4), (5, .int (p.1)), (6, .int (p.2.1))] [] p.2.2 (some (.int r.1), r.2)) (hk127 : ∀ (p : Int32 × HS) (r : Int32 × HS), k127 p = some r → AR l RX9 cX9_motion 8 (some .int) (wsU yX9_motion cX9_motion 8 (some .int)) rm9_motion SM 127 [(0, .ref 0), (1, .int x1), (2, .int x2), (3, .int x3), (4, .int x4), (5, .int x5), (6, .int x6), (7, .int (p.1))] [] p.2 (some (.int r.1), r.2)) (σ : HS) (r : Int32 × HS) (h : f9_motion_127_b k80 k127 x1 x2 x3 x4 x5 x6 x7 σ = some r) : AR l RX9 cX9_motion 8 (some .int) (wsU yX9_motion cX9_motion 8 (some .int)) rm9_motion SM 127 [(0, .ref 0), (1, .int x1), (2, .int x2), (3, .int x3), (4, .int x4), (5, .int x5), (6, .int x6), (7, .int x7)] [] σ (some (.int r.1), r.2) := by
  unfold f9_motion_127_b at h
  refine AR.iload (pc := 127) (j := 7) dX9_motion_127 rfl ?_
  refine AR.aload_n (pc := 129) (j := 0) dX9_motion_129 rfl rfl ?_
  refine AR.getf (pc := 130) (ci := 9) (j := 1) (d := 0) (v := .int (σ.1 0 1)) (T := TX9) dX9_motion_130 rfl rfl rfl (by decide) (fun w hw => wsU_in (uw_X9 w hw)) (wsU_in fl_X9_113) rfl ?_
  refine AR.icmp_ge (pc := 133) (tgt := 156) dX9_motion_133 (by decide) (fun c1 => ?_) (fun c1 => ?_)
  · replace h := ite_t c1 h
    exact AR.pick [0, 1, 2, 3, 4, 5, 6] rfl (A9_motion_156 k80 x1 x2 x3 x4 x5 x6 hk80 σ r h)
  · replace h := ite_f c1 h
    refine AR.aload_n (pc := 136) (j := 0) dX9_motion_136 rfl rfl ?_
    refine AR.getf (pc := 137) (ci := 9) (j := 27) (d := 17 + 2) (v := .ref 17) (T := TX9) dX9_motion_137 rfl rfl rfl (by decide) (fun w hw => wsU_in (uw_X9 w hw)) (wsU_in fl_X9_58) rfl ?_
    refine AR.iload (pc := 140) (j := 7) dX9_motion_140 rfl ?_
    refine AR.aload_n (pc := 142) (j := 0) dX9_motion_142 rfl rfl ?_
    refine AR.getf (pc := 143) (ci := 9) (j := 10) (d := 6 + 2) (v := .ref 6) (T := TX9) dX9_motion_143 rfl rfl rfl (by decide) (fun w hw => wsU_in (uw_X9 w hw)) (wsU_in fl_X9_25) rfl ?_
    refine AR.iload (pc := 146) (j := 7) dX9_motion_146 rfl ?_
    obtain ⟨c2, h⟩ := gn_some h
    refine AR.iaload (pc := 148) dX9_motion_148 rfl c2 ?_
    obtain ⟨c3, h⟩ := gn_some h
    refine AR.iastore (pc := 149) dX9_motion_149 rfl c3 ?_
    refine AR.iinc (pc := 150) (j := 7) (v := (x7 + 1)) (L2 := [(7, .int (x7 + 1)), (0, .ref 0), (1, .int x1), (2, .int x2), (3, .int x3), (4, .int x4), (5, .int x5), (6, .int x6)]) dX9_motion_150 rfl rfl (by decide) rfl ?_
    refine AR.goto (pc := 153) (tgt := 127) dX9_motion_153 (by decide) ?_
    exact AR.pick [1, 2, 3, 4, 5, 6, 7, 0] rfl (hk127 ((x7 + 1), (uI σ 17 (x7 : Int32).toNatClampNeg (σ.1 6 (x7 : Int32).toNatClampNeg))) r h)
theorem A9_motion_127 {l : Launch} (k80 : Int32 × Int32 × HS → Option (Int32 × HS)) (x1 : Int32) (x2 : Int32) (x3 : Int32) (x4 : Int32) (x5 : Int32) (x6 : Int32) (hk80 : ∀ (p : Int32 × Int32 × HS) (r : Int32 × HS), k80 p = some r → AR l RX9 cX9_motion 8 (some .int) (wsU yX9_motion cX9_motion 8 (some .int)) rm9_motion SM 80 [(0, .ref 0), (1, .int x1), (2, .int x2), (3, .int x3), (4, .int x4), (5, .int (p.1)), (6, .int (p.2.1))] [] p.2.2 (some (.int r.1), r.2)) (p : Int32 × HS) (r : Int32 × HS) (h : f9_motion_127 k80 x1 x2 x3 x4 x5 x6 p = some r) : AR l RX9 cX9_motion 8 (some .int) (wsU yX9_motion cX9_motion 8 (some .int)) rm9_motion SM 127 [(0, .ref 0), (1, .int x1), (2, .int x2), (3, .int x3), (4, .int x4), (5, .int x5), (6, .int x6), (7, .int (p.1))] [] p.2 (some (.int r.1), r.2) := by
  unfold f9_motion_127 at h
  exact wloop_run (body := fun k127 p => f9_motion_127_b k80 k127 x1 x2 x3 x4 x5 x6 p.1 p.2) (Q := fun p r => AR l RX9 cX9_motion 8 (some .int) (wsU yX9_motion cX9_motion 8 (some .int)) rm9_motion SM 127 [(0, .ref 0), (1, .int x1), (2, .int x2), (3, .int x3), (4, .int x4), (5, .int x5), (6, .int x6), (7, .int (p.1))] [] p.2 (some (.int r.1), r.2)) (fun k127 hk127 p r h => A9_motion_127_b k80 k127 x1 x2 x3 x4 x5 x6 p.1 hk80 hk127 p.2 r h) fuelN p r h
set_option maxHeartbeats 4000000 in
set_option maxRecDepth 100000 in
theorem A9_motion_80_b {l : Launch} (k80 : Int32 × Int32 × HS → Option (Int32 × HS)) (x1 : Int32) (x2 : Int32) (x3 : Int32) (x4 : Int32) (x5 : Int32) (x6 : Int32) (hk80 : ∀ (p : Int32 × Int32 × HS) (r : Int32 × HS), k80 p = some r → AR l RX9 cX9_motion 8 (some .int) (wsU yX9_motion cX9_motion 8 (some .int)) rm9_motion SM 80 [(0, .ref 0), (1, .int x1), (2, .int x2), (3, .int x3), (4, .int x4), (5, .int (p.1)), (6, .int (p.2.1))] [] p.2.2 (some (.int r.1), r.2)) (σ : HS) (r : Int32 × HS) (h : f9_motion_80_b k80 x1 x2 x3 x4 x5 x6 σ = some r) : AR l RX9 cX9_motion 8 (some .int) (wsU yX9_motion cX9_motion 8 (some .int)) rm9_motion SM 80 [(0, .ref 0), (1, .int x1), (2, .int x2), (3, .int x3), (4, .int x4), (5, .int x5), (6, .int x6)] [] σ (some (.int r.1), r.2) := by
  unfold f9_motion_80_b at h
  refine AR.iload (pc := 80) (j := 6) dX9_motion_80 rfl ?_
  refine AR.iload (pc := 82) (j := 4) dX9_motion_82 rfl ?_
  refine AR.icmp_ge (pc := 84) (tgt := 162) dX9_motion_84 (by decide) (fun c1 => ?_) (fun c1 => ?_)
  · replace h := ite_t c1 h
    refine AR.iconst (pc := 162) (v := 0) dX9_motion_162 (by decide) ?_
    refine AR.istore (pc := 163) (L2 := [(6, .int 0), (0, .ref 0), (1, .int x1), (2, .int x2), (3, .int x3), (4, .int x4), (5, .int x5)]) dX9_motion_163 (by decide) rfl ?_
    exact AR.pick [1, 4, 6, 0] rfl (A9_motion_165 x3 x5 (0, σ) r h)
  · replace h := ite_f c1 h
    refine AR.aload_n (pc := 87) (j := 0) dX9_motion_87 rfl rfl ?_
    refine AR.iload (pc := 88) (j := 6) dX9_motion_88 rfl ?_
    obtain ⟨r2, h2, h⟩ := bd_some h
    refine AR.callV (pc := 90) (As := [.int x6]) (st := []) (ci := 9) dX9_motion_90 ⟨cd_X9_layOrder, im_X9_layOrder, se_X9_layOrder, ini_X9⟩ ml_X9_268 (A9_layOrder x6 σ _ h2) ⟨rfl, pd_X9_layOrder⟩ ⟨Nat.le_of_ble_eq_true rfl, Nat.le_of_ble_eq_true rfl⟩ ⟨rfl, rfl⟩ rfl rfl rfl (Nat.le_of_ble_eq_true rfl) ?_
    refine AR.if_eq (pc := 93) (tgt := 156) dX9_motion_93 (by decide) (fun c3 => ?_) (fun c3 => ?_)
    · replace h := ite_t c3 h
      exact AR.pick [0, 1, 2, 3, 4, 5, 6] rfl (A9_motion_156 k80 x1 x2 x3 x4 x5 x6 hk80 (r2.2) r h)
    · replace h := ite_f c3 h
      refine AR.aload_n (pc := 96) (j := 0) dX9_motion_96 rfl rfl ?_
      obtain ⟨r4, h4, h⟩ := bd_some h
      refine AR.callV (pc := 97) (As := []) (st := []) (ci := 9) dX9_motion_97 ⟨cd_X9_otherPlaces, im_X9_otherPlaces, se_X9_otherPlaces, ini_X9⟩ ml_X9_271 (A9_otherPlaces (r2.2) _ h4) ⟨rfl, pd_X9_otherPlaces⟩ ⟨Nat.le_of_ble_eq_true rfl, Nat.le_of_ble_eq_true rfl⟩ ⟨rfl, rfl⟩ rfl rfl rfl (Nat.le_of_ble_eq_true rfl) ?_
      refine AR.iload (pc := 100) (j := 5) dX9_motion_100 rfl ?_
      refine AR.icmp_ge (pc := 102) (tgt := 156) dX9_motion_102 (by decide) (fun c5 => ?_) (fun c5 => ?_)
      · replace h := ite_t c5 h
        exact AR.pick [0, 1, 2, 3, 4, 5, 6] rfl (A9_motion_156 k80 x1 x2 x3 x4 x5 x6 hk80 (r4.2) r h)
      · replace h := ite_f c5 h
        refine AR.aload_n (pc := 105) (j := 0) dX9_motion_105 rfl rfl ?_
        obtain ⟨r6, h6, h⟩ := bd_some h
        refine AR.callV (pc := 106) (As := []) (st := []) (ci := 9) dX9_motion_106 ⟨cd_X9_goFree, im_X9_goFree, se_X9_goFree, ini_X9⟩ ml_X9_254 (A9_goFree (r4.2) _ h6) ⟨rfl, pd_X9_goFree⟩ ⟨Nat.le_of_ble_eq_true rfl, Nat.le_of_ble_eq_true rfl⟩ ⟨rfl, rfl⟩ rfl rfl rfl (Nat.le_of_ble_eq_true rfl) ?_
        refine AR.aload_n (pc := 109) (j := 0) dX9_motion_109 rfl rfl ?_
        refine AR.iload_n (pc := 110) (j := 1) dX9_motion_110 rfl rfl ?_
        refine AR.iload_n (pc := 111) (j := 2) dX9_motion_111 rfl rfl ?_
        obtain ⟨r7, h7, h⟩ := bd_some h
        refine AR.callV (pc := 112) (As := [.int x1, .int x2]) (st := []) (ci := 9) dX9_motion_112 ⟨cd_X9_isSaid, im_X9_isSaid, se_X9_isSaid, ini_X9⟩ ml_X9_274 (A9_isSaid x1 x2 r6 _ h7) ⟨rfl, pd_X9_isSaid⟩ ⟨Nat.le_of_ble_eq_true rfl, Nat.le_of_ble_eq_true rfl⟩ ⟨rfl, rfl⟩ rfl rfl rfl (Nat.le_of_ble_eq_true rfl) ?_
        refine AR.if_eq (pc := 115) (tgt := 156) dX9_motion_115 (by decide) (fun c8 => ?_) (fun c8 => ?_)
        · replace h := ite_t c8 h
          exact AR.pick [0, 1, 2, 3, 4, 5, 6] rfl (A9_motion_156 k80 x1 x2 x3 x4 x5 x6 hk80 (r7.2) r h)
        · replace h := ite_f c8 h
          refine AR.aload_n (pc := 118) (j := 0) dX9_motion_118 rfl rfl ?_
          obtain ⟨r9, h9, h⟩ := bd_some h
          refine AR.callV (pc := 119) (As := []) (st := []) (ci := 9) dX9_motion_119 ⟨cd_X9_otherPlaces, im_X9_otherPlaces, se_X9_otherPlaces, ini_X9⟩ ml_X9_271 (A9_otherPlaces (r7.2) _ h9) ⟨rfl, pd_X9_otherPlaces⟩ ⟨Nat.le_of_ble_eq_true rfl, Nat.le_of_ble_eq_true rfl⟩ ⟨rfl, rfl⟩ rfl rfl rfl (Nat.le_of_ble_eq_true rfl) ?_
          refine AR.istore (pc := 122) (L2 := [(5, .int (r9.1)), (0, .ref 0), (1, .int x1), (2, .int x2), (3, .int x3), (4, .int x4), (6, .int x6)]) dX9_motion_122 (by decide) rfl ?_
          refine AR.iconst (pc := 124) (v := 0) dX9_motion_124 (by decide) ?_
          refine AR.istore (pc := 125) (L2 := [(7, .int 0), (5, .int (r9.1)), (0, .ref 0), (1, .int x1), (2, .int x2), (3, .int x3), (4, .int x4), (6, .int x6)]) dX9_motion_125 (by decide) rfl ?_
          exact AR.pick [2, 3, 4, 5, 6, 1, 7, 0] rfl (A9_motion_127 k80 x1 x2 x3 x4 (r9.1) x6 hk80 (0, r9.2) r h)
theorem A9_motion_80 {l : Launch} (x1 : Int32) (x2 : Int32) (x3 : Int32) (x4 : Int32) (p : Int32 × Int32 × HS) (r : Int32 × HS) (h : f9_motion_80 x1 x2 x3 x4 p = some r) : AR l RX9 cX9_motion 8 (some .int) (wsU yX9_motion cX9_motion 8 (some .int)) rm9_motion SM 80 [(0, .ref 0), (1, .int x1), (2, .int x2), (3, .int x3), (4, .int x4), (5, .int (p.1)), (6, .int (p.2.1))] [] p.2.2 (some (.int r.1), r.2) := by
  unfold f9_motion_80 at h
  exact wloop_run (body := fun k80 p => f9_motion_80_b k80 x1 x2 x3 x4 p.1 p.2.1 p.2.2) (Q := fun p r => AR l RX9 cX9_motion 8 (some .int) (wsU yX9_motion cX9_motion 8 (some .int)) rm9_motion SM 80 [(0, .ref 0), (1, .int x1), (2, .int x2), (3, .int x3), (4, .int x4), (5, .int (p.1)), (6, .int (p.2.1))] [] p.2.2 (some (.int r.1), r.2)) (fun k80 hk80 p r h => A9_motion_80_b k80 x1 x2 x3 x4 p.1 p.2.1 hk80 p.2.2 r h) fuelN p r h
set_option maxHeartbeats 4000000 in
set_option maxRecDepth 100000 in
theorem A9_motion_35_b {l : Launch} (k35 : Int32 × Int32 × HS → Option (Int32 × HS)) (x1 : Int32) (x2 : Int32) (x3 : Int32) (x4 : Int32) (x5 : Int32) (hk35 : ∀ (p : Int32 × Int32 × HS) (r : Int32 × HS), k35 p = some r → AR l RX9 cX9_motion 8 (some .int) (wsU yX9_motion cX9_motion 8 (some .int)) rm9_motion SM 35 [(0, .ref 0), (1, .int x1), (2, .int x2), (3, .int x3), (4, .int (p.1)), (5, .int (p.2.1))] [] p.2.2 (some (.int r.1), r.2)) (σ : HS) (r : Int32 × HS) (h : f9_motion_35_b k35 x1 x2 x3 x4 x5 σ = some r) : AR l RX9 cX9_motion 8 (some .int) (wsU yX9_motion cX9_motion 8 (some .int)) rm9_motion SM 35 [(0, .ref 0), (1, .int x1), (2, .int x2), (3, .int x3), (4, .int x4), (5, .int x5)] [] σ (some (.int r.1), r.2) := by
  unfold f9_motion_35_b at h
  refine AR.iload (pc := 35) (j := 5) dX9_motion_35 rfl ?_
  refine AR.aload_n (pc := 37) (j := 0) dX9_motion_37 rfl rfl ?_
  refine AR.getf (pc := 38) (ci := 9) (j := 1) (d := 0) (v := .int (σ.1 0 1)) (T := TX9) dX9_motion_38 rfl rfl rfl (by decide) (fun w hw => wsU_in (uw_X9 w hw)) (wsU_in fl_X9_113) rfl ?_
  refine AR.icmp_ge (pc := 41) (tgt := 73) dX9_motion_41 (by decide) (fun c1 => ?_) (fun c1 => ?_)
  · replace h := ite_t c1 h
    refine AR.bipush (pc := 73) (v := 99) dX9_motion_73 (by decide) ?_
    refine AR.istore (pc := 75) (L2 := [(5, .int 99), (0, .ref 0), (1, .int x1), (2, .int x2), (3, .int x3), (4, .int x4)]) dX9_motion_75 (by decide) rfl ?_
    refine AR.iconst (pc := 77) (v := 0) dX9_motion_77 (by decide) ?_
    refine AR.istore (pc := 78) (L2 := [(6, .int 0), (5, .int 99), (0, .ref 0), (1, .int x1), (2, .int x2), (3, .int x3), (4, .int x4)]) dX9_motion_78 (by decide) rfl ?_
    exact AR.pick [2, 3, 4, 5, 6, 1, 0] rfl (A9_motion_80 x1 x2 x3 x4 (99, 0, σ) r h)
  · replace h := ite_f c1 h
    refine AR.aload_n (pc := 44) (j := 0) dX9_motion_44 rfl rfl ?_
    refine AR.getf (pc := 45) (ci := 9) (j := 28) (d := 18 + 2) (v := .ref 18) (T := TX9) dX9_motion_45 rfl rfl rfl (by decide) (fun w hw => wsU_in (uw_X9 w hw)) (wsU_in fl_X9_61) rfl ?_
    refine AR.iload (pc := 48) (j := 5) dX9_motion_48 rfl ?_
    refine AR.aload_n (pc := 50) (j := 0) dX9_motion_50 rfl rfl ?_
    refine AR.getf (pc := 51) (ci := 9) (j := 10) (d := 6 + 2) (v := .ref 6) (T := TX9) dX9_motion_51 rfl rfl rfl (by decide) (fun w hw => wsU_in (uw_X9 w hw)) (wsU_in fl_X9_25) rfl ?_
    refine AR.iload (pc := 54) (j := 5) dX9_motion_54 rfl ?_
    obtain ⟨c2, h⟩ := gn_some h
    refine AR.iaload (pc := 56) dX9_motion_56 rfl c2 ?_
    obtain ⟨c3, h⟩ := gn_some h
    refine AR.iastore (pc := 57) dX9_motion_57 rfl c3 ?_
    refine AR.iload (pc := 58) (j := 4) dX9_motion_58 rfl ?_
    refine AR.aload_n (pc := 60) (j := 0) dX9_motion_60 rfl rfl ?_
    refine AR.getf (pc := 61) (ci := 9) (j := 1) (d := 0) (v := .int ((uI σ 18 (x5 : Int32).toNatClampNeg (σ.1 6 (x5 : Int32).toNatClampNeg)).1 0 1)) (T := TX9) dX9_motion_61 rfl rfl rfl (by decide) (fun w hw => wsU_in (uw_X9 w hw)) (wsU_in fl_X9_113) rfl ?_
    refine AR.imul (pc := 64) dX9_motion_64 ?_
    refine AR.istore (pc := 65) (L2 := [(4, .int (x4 * ((uI σ 18 (x5 : Int32).toNatClampNeg (σ.1 6 (x5 : Int32).toNatClampNeg)).1 0 1))), (0, .ref 0), (1, .int x1), (2, .int x2), (3, .int x3), (5, .int x5)]) dX9_motion_65 (by decide) rfl ?_
    refine AR.iinc (pc := 67) (j := 5) (v := (x5 + 1)) (L2 := [(5, .int (x5 + 1)), (4, .int (x4 * ((uI σ 18 (x5 : Int32).toNatClampNeg (σ.1 6 (x5 : Int32).toNatClampNeg)).1 0 1))), (0, .ref 0), (1, .int x1), (2, .int x2), (3, .int x3)]) dX9_motion_67 rfl rfl (by decide) rfl ?_
    refine AR.goto (pc := 70) (tgt := 35) dX9_motion_70 (by decide) ?_
    exact AR.pick [2, 3, 4, 5, 1, 0] rfl (hk35 ((x4 * ((uI σ 18 (x5 : Int32).toNatClampNeg (σ.1 6 (x5 : Int32).toNatClampNeg)).1 0 1)), (x5 + 1), (uI σ 18 (x5 : Int32).toNatClampNeg (σ.1 6 (x5 : Int32).toNatClampNeg))) r h)
theorem A9_motion_35 {l : Launch} (x1 : Int32) (x2 : Int32) (x3 : Int32) (p : Int32 × Int32 × HS) (r : Int32 × HS) (h : f9_motion_35 x1 x2 x3 p = some r) : AR l RX9 cX9_motion 8 (some .int) (wsU yX9_motion cX9_motion 8 (some .int)) rm9_motion SM 35 [(0, .ref 0), (1, .int x1), (2, .int x2), (3, .int x3), (4, .int (p.1)), (5, .int (p.2.1))] [] p.2.2 (some (.int r.1), r.2) := by
  unfold f9_motion_35 at h
  exact wloop_run (body := fun k35 p => f9_motion_35_b k35 x1 x2 x3 p.1 p.2.1 p.2.2) (Q := fun p r => AR l RX9 cX9_motion 8 (some .int) (wsU yX9_motion cX9_motion 8 (some .int)) rm9_motion SM 35 [(0, .ref 0), (1, .int x1), (2, .int x2), (3, .int x3), (4, .int (p.1)), (5, .int (p.2.1))] [] p.2.2 (some (.int r.1), r.2)) (fun k35 hk35 p r h => A9_motion_35_b k35 x1 x2 x3 p.1 p.2.1 hk35 p.2.2 r h) fuelN p r h
set_option maxHeartbeats 4000000 in
set_option maxRecDepth 100000 in
theorem A9_motion {l : Launch} (x1 : Int32) (x2 : Int32) (x3 : Int32) (σ : HS) (r : Int32 × HS) (h : f9_motion x1 x2 x3 σ = some r) : MA l yX9_motion (wsU yX9_motion cX9_motion 8 (some .int)) rm9_motion SM [.ref 0, .int x1, .int x2, .int x3] σ (some (.int r.1), r.2) := by
  refine MA.of (L := [(0, .ref 0), (1, .int x1), (2, .int x2), (3, .int x3)]) pn_X9_motion rfl (fun _ => Nat.le_of_ble_eq_true rfl) (fun _ => rfl) ?_
  unfold f9_motion at h
  refine AR.aload_n (pc := 0) (j := 0) dX9_motion_0 rfl rfl ?_
  refine AR.iload_n (pc := 1) (j := 1) dX9_motion_1 rfl rfl ?_
  refine AR.iload_n (pc := 2) (j := 2) dX9_motion_2 rfl rfl ?_
  obtain ⟨r1, h1, h⟩ := bd_some h
  refine AR.callV (pc := 3) (As := [.int x1, .int x2]) (st := []) (ci := 9) dX9_motion_3 ⟨cd_X9_noWord, im_X9_noWord, se_X9_noWord, ini_X9⟩ ml_X9_182 (A9_noWord x1 x2 σ _ h1) ⟨rfl, pd_X9_noWord⟩ ⟨Nat.le_of_ble_eq_true rfl, Nat.le_of_ble_eq_true rfl⟩ ⟨rfl, rfl⟩ rfl rfl rfl (Nat.le_of_ble_eq_true rfl) ?_
  refine AR.if_ne (pc := 6) (tgt := 27) dX9_motion_6 (by decide) (fun c2 => ?_) (fun c2 => ?_)
  · replace h := ite_f c2 h
    refine AR.iconst (pc := 27) (v := (-1)) dX9_motion_27 (by decide) ?_
    exact AR.iret (pc := 28) rfl dX9_motion_28 (hrI (Option.some.inj h))
  · replace h := ite_t c2 h
    refine AR.iload_n (pc := 9) (j := 3) dX9_motion_9 rfl rfl ?_
    refine AR.i2l (pc := 10) dX9_motion_10 ?_
    refine AR.ldc2 (pc := 11) (v := (-1)) dX9_motion_11 (wsU_in kl_X9_257) ?_
    refine AR.aload_n (pc := 14) (j := 0) dX9_motion_14 rfl rfl ?_
    refine AR.getf (pc := 15) (ci := 9) (j := 1) (d := 0) (v := .int ((r1.2).1 0 1)) (T := TX9) dX9_motion_15 rfl rfl rfl (by decide) (fun w hw => wsU_in (uw_X9 w hw)) (wsU_in fl_X9_113) rfl ?_
    refine AR.i2l (pc := 18) dX9_motion_18 ?_
    refine AR.lconst (pc := 19) (v := 1) dX9_motion_19 (by decide) ?_
    refine AR.lsub (pc := 20) dX9_motion_20 ?_
    obtain ⟨r3, h3, h⟩ := bd_some h
    refine AR.callS (pc := 21) (As := [.long ((x3 : Int32).toInt64), .long (-1), .long (((((r1.2).1 0 1) : Int32).toInt64) - 1)]) (st := []) dX9_motion_21 ⟨cd_X9_in, sm_X9_in, ini_X9⟩ ml_X9_102 (A9_in ((x3 : Int32).toInt64) (-1) (((((r1.2).1 0 1) : Int32).toInt64) - 1) (r1.2) _ h3) ⟨rfl, pd_X9_in⟩ ⟨Nat.le_of_ble_eq_true rfl, Nat.le_of_ble_eq_true rfl⟩ ⟨rfl, rfl⟩ rfl (Nat.le_of_ble_eq_true rfl) ?_
    refine AR.if_ne (pc := 24) (tgt := 29) dX9_motion_24 (by decide) (fun c4 => ?_) (fun c4 => ?_)
    · replace h := ite_f c4 h
      refine AR.iconst (pc := 29) (v := 1) dX9_motion_29 (by decide) ?_
      refine AR.istore (pc := 30) (L2 := [(4, .int 1), (0, .ref 0), (1, .int x1), (2, .int x2), (3, .int x3)]) dX9_motion_30 (by decide) rfl ?_
      refine AR.iconst (pc := 32) (v := 0) dX9_motion_32 (by decide) ?_
      refine AR.istore (pc := 33) (L2 := [(5, .int 0), (4, .int 1), (0, .ref 0), (1, .int x1), (2, .int x2), (3, .int x3)]) dX9_motion_33 (by decide) rfl ?_
      exact AR.pick [2, 3, 4, 5, 1, 0] rfl (A9_motion_35 x1 x2 x3 (1, 0, r3.2) r h)
    · replace h := ite_t c4 h
      refine AR.iconst (pc := 27) (v := (-1)) dX9_motion_27 (by decide) ?_
      exact AR.iret (pc := 28) rfl dX9_motion_28 (hrI (Option.some.inj h))
noncomputable def f9_dry_98 (k20 : Int32 × Int32 × HS → Option (Int32 × HS)) (x1 : Int32) (x2 : Int32) (x3 : Int32) (x4 : Int32) (σ : HS) : Option (Int32 × HS) :=
  k20 (x3, (x4 + 1), σ)
noncomputable def f9_dry_90 (k20 : Int32 × Int32 × HS → Option (Int32 × HS)) (k32 : Int32 × Int32 × HS → Option (Int32 × HS)) (x1 : Int32) (x2 : Int32) (x4 : Int32) (x5 : Int32) (z0 : Int32) (z1 : Int32) (σ : HS) : Option (Int32 × HS) :=
  k32 ((z1 ||| z0), (x5 + 1), σ)
noncomputable def f9_dry_69 (k20 : Int32 × Int32 × HS → Option (Int32 × HS)) (k32 : Int32 × Int32 × HS → Option (Int32 × HS)) (x1 : Int32) (x2 : Int32) (x3 : Int32) (x4 : Int32) (x5 : Int32) (z0 : Int32) (z1 : Int32) (σ : HS) : Option (Int32 × HS) :=
  bd (f9_goDay z1 z0 σ) fun r1 =>
  bd (f9_isSaid x1 x2 r1) fun r2 =>
  if (r2.1 : Int32) = 0 then
    f9_dry_90 k20 k32 x1 x2 x4 x5 (1 <<< (x4 &&& 31)) x3 (r2.2)
  else
    f9_dry_90 k20 k32 x1 x2 x4 x5 0 x3 (r2.2)
noncomputable def f9_dry_32_b (k20 : Int32 × Int32 × HS → Option (Int32 × HS)) (k32 : Int32 × Int32 × HS → Option (Int32 × HS)) (x1 : Int32) (x2 : Int32) (x3 : Int32) (x4 : Int32) (x5 : Int32) (σ : HS) : Option (Int32 × HS) :=
  if (x4 : Int32) < 0 ∨ 5 ≤ (x4 : Int32).toNatClampNeg then none else
  if ((σ.1 2 (x4 : Int32).toNatClampNeg) : Int32) ≤ x5 then
    f9_dry_98 k20 x1 x2 x3 x4 σ
  else
    if (x4 : Int32) = x1 then
      f9_dry_98 k20 x1 x2 x3 x4 σ
    else
      bd (f9_placeOf x4 σ) fun r4 =>
      if 0 ≤ (x5 : Int32) then
        f9_dry_69 k20 k32 x1 x2 x3 x4 x5 x5 (r4.1) (r4.2)
      else
        f9_dry_69 k20 k32 x1 x2 x3 x4 x5 (-9) (r4.1) (r4.2)
noncomputable def f9_dry_32 (k20 : Int32 × Int32 × HS → Option (Int32 × HS)) (x1 : Int32) (x2 : Int32) (x4 : Int32) (p : Int32 × Int32 × HS) : Option (Int32 × HS) :=
  wloop (fun k32 p => f9_dry_32_b k20 k32 x1 x2 p.1 x4 p.2.1 p.2.2) fuelN p
noncomputable def f9_dry_20_b (k20 : Int32 × Int32 × HS → Option (Int32 × HS)) (x1 : Int32) (x2 : Int32) (x3 : Int32) (x4 : Int32) (σ : HS) : Option (Int32 × HS) :=
  if ((σ.1 0 1) : Int32) ≤ x4 then
    some (x3, σ)
  else
    f9_dry_32 k20 x1 x2 x4 (x3, (-1), σ)
noncomputable def f9_dry_20 (x1 : Int32) (x2 : Int32) (p : Int32 × Int32 × HS) : Option (Int32 × HS) :=
  wloop (fun k20 p => f9_dry_20_b k20 x1 x2 p.1 p.2.1 p.2.2) fuelN p
noncomputable def f9_dry (x1 : Int32) (x2 : Int32) (σ : HS) : Option (Int32 × HS) :=
  bd (f9_noWord x1 x2 σ) fun r1 =>
  if (r1.1 : Int32) = 0 then
    bd (f9_layChoices (r1.2)) fun r3 =>
    f9_dry_20 x1 x2 (0, 0, r3)
  else
    some ((-1), r1.2)
set_option maxHeartbeats 4000000 in
set_option maxRecDepth 100000 in
theorem A9_dry_98 {l : Launch} (k20 : Int32 × Int32 × HS → Option (Int32 × HS)) (x1 : Int32) (x2 : Int32) (x3 : Int32) (x4 : Int32) (hk20 : ∀ (p : Int32 × Int32 × HS) (r : Int32 × HS), k20 p = some r → AR l RX9 cX9_dry 6 (some .int) (wsU yX9_dry cX9_dry 6 (some .int)) rm9_dry SM 20 [(0, .ref 0), (1, .int x1), (2, .int x2), (3, .int (p.1)), (4, .int (p.2.1))] [] p.2.2 (some (.int r.1), r.2)) (σ : HS) (r : Int32 × HS) (h : f9_dry_98 k20 x1 x2 x3 x4 σ = some r) : AR l RX9 cX9_dry 6 (some .int) (wsU yX9_dry cX9_dry 6 (some .int)) rm9_dry SM 98 [(0, .ref 0), (1, .int x1), (2, .int x2), (3, .int x3), (4, .int x4)] [] σ (some (.int r.1), r.2) := by
  unfold f9_dry_98 at h
  refine AR.iinc (pc := 98) (j := 4) (v := (x4 + 1)) (L2 := [(4, .int (x4 + 1)), (0, .ref 0), (1, .int x1), (2, .int x2), (3, .int x3)]) dX9_dry_98 rfl rfl (by decide) rfl ?_
  refine AR.goto (pc := 101) (tgt := 20) dX9_dry_101 (by decide) ?_
  exact AR.pick [1, 2, 3, 4, 0] rfl (hk20 (x3, (x4 + 1), σ) r h)
set_option maxHeartbeats 4000000 in
set_option maxRecDepth 100000 in
theorem A9_dry_90 {l : Launch} (k20 : Int32 × Int32 × HS → Option (Int32 × HS)) (k32 : Int32 × Int32 × HS → Option (Int32 × HS)) (x1 : Int32) (x2 : Int32) (x4 : Int32) (x5 : Int32) (z0 : Int32) (z1 : Int32) (hk20 : ∀ (p : Int32 × Int32 × HS) (r : Int32 × HS), k20 p = some r → AR l RX9 cX9_dry 6 (some .int) (wsU yX9_dry cX9_dry 6 (some .int)) rm9_dry SM 20 [(0, .ref 0), (1, .int x1), (2, .int x2), (3, .int (p.1)), (4, .int (p.2.1))] [] p.2.2 (some (.int r.1), r.2)) (hk32 : ∀ (p : Int32 × Int32 × HS) (r : Int32 × HS), k32 p = some r → AR l RX9 cX9_dry 6 (some .int) (wsU yX9_dry cX9_dry 6 (some .int)) rm9_dry SM 32 [(0, .ref 0), (1, .int x1), (2, .int x2), (3, .int (p.1)), (4, .int x4), (5, .int (p.2.1))] [] p.2.2 (some (.int r.1), r.2)) (σ : HS) (r : Int32 × HS) (h : f9_dry_90 k20 k32 x1 x2 x4 x5 z0 z1 σ = some r) : AR l RX9 cX9_dry 6 (some .int) (wsU yX9_dry cX9_dry 6 (some .int)) rm9_dry SM 90 [(0, .ref 0), (1, .int x1), (2, .int x2), (4, .int x4), (5, .int x5)] [.int z0, .int z1] σ (some (.int r.1), r.2) := by
  unfold f9_dry_90 at h
  refine AR.ior (pc := 90) dX9_dry_90 ?_
  refine AR.istore_n (pc := 91) (L2 := [(3, .int (z1 ||| z0)), (0, .ref 0), (1, .int x1), (2, .int x2), (4, .int x4), (5, .int x5)]) dX9_dry_91 rfl (by decide) rfl ?_
  refine AR.iinc (pc := 92) (j := 5) (v := (x5 + 1)) (L2 := [(5, .int (x5 + 1)), (3, .int (z1 ||| z0)), (0, .ref 0), (1, .int x1), (2, .int x2), (4, .int x4)]) dX9_dry_92 rfl rfl (by decide) rfl ?_
  refine AR.goto (pc := 95) (tgt := 32) dX9_dry_95 (by decide) ?_
  exact AR.pick [2, 3, 4, 1, 5, 0] rfl (hk32 ((z1 ||| z0), (x5 + 1), σ) r h)
set_option maxHeartbeats 4000000 in
set_option maxRecDepth 100000 in
theorem A9_dry_69 {l : Launch} (k20 : Int32 × Int32 × HS → Option (Int32 × HS)) (k32 : Int32 × Int32 × HS → Option (Int32 × HS)) (x1 : Int32) (x2 : Int32) (x3 : Int32) (x4 : Int32) (x5 : Int32) (z0 : Int32) (z1 : Int32) (hk20 : ∀ (p : Int32 × Int32 × HS) (r : Int32 × HS), k20 p = some r → AR l RX9 cX9_dry 6 (some .int) (wsU yX9_dry cX9_dry 6 (some .int)) rm9_dry SM 20 [(0, .ref 0), (1, .int x1), (2, .int x2), (3, .int (p.1)), (4, .int (p.2.1))] [] p.2.2 (some (.int r.1), r.2)) (hk32 : ∀ (p : Int32 × Int32 × HS) (r : Int32 × HS), k32 p = some r → AR l RX9 cX9_dry 6 (some .int) (wsU yX9_dry cX9_dry 6 (some .int)) rm9_dry SM 32 [(0, .ref 0), (1, .int x1), (2, .int x2), (3, .int (p.1)), (4, .int x4), (5, .int (p.2.1))] [] p.2.2 (some (.int r.1), r.2)) (σ : HS) (r : Int32 × HS) (h : f9_dry_69 k20 k32 x1 x2 x3 x4 x5 z0 z1 σ = some r) : AR l RX9 cX9_dry 6 (some .int) (wsU yX9_dry cX9_dry 6 (some .int)) rm9_dry SM 69 [(0, .ref 0), (1, .int x1), (2, .int x2), (3, .int x3), (4, .int x4), (5, .int x5)] [.int z0, .int z1, .ref 0] σ (some (.int r.1), r.2) := by
  unfold f9_dry_69 at h
  obtain ⟨r1, h1, h⟩ := bd_some h
  refine AR.callV (pc := 69) (As := [.int z1, .int z0]) (st := []) (ci := 9) dX9_dry_69 ⟨cd_X9_goDay, im_X9_goDay, se_X9_goDay, ini_X9⟩ ml_X9_247 (A9_goDay z1 z0 σ _ h1) ⟨rfl, pd_X9_goDay⟩ ⟨Nat.le_of_ble_eq_true rfl, Nat.le_of_ble_eq_true rfl⟩ ⟨rfl, rfl⟩ rfl rfl rfl (Nat.le_of_ble_eq_true rfl) ?_
  refine AR.iload_n (pc := 72) (j := 3) dX9_dry_72 rfl rfl ?_
  refine AR.aload_n (pc := 73) (j := 0) dX9_dry_73 rfl rfl ?_
  refine AR.iload_n (pc := 74) (j := 1) dX9_dry_74 rfl rfl ?_
  refine AR.iload_n (pc := 75) (j := 2) dX9_dry_75 rfl rfl ?_
  obtain ⟨r2, h2, h⟩ := bd_some h
  refine AR.callV (pc := 76) (As := [.int x1, .int x2]) (st := [.int x3]) (ci := 9) dX9_dry_76 ⟨cd_X9_isSaid, im_X9_isSaid, se_X9_isSaid, ini_X9⟩ ml_X9_274 (A9_isSaid x1 x2 r1 _ h2) ⟨rfl, pd_X9_isSaid⟩ ⟨Nat.le_of_ble_eq_true rfl, Nat.le_of_ble_eq_true rfl⟩ ⟨rfl, rfl⟩ rfl rfl rfl (Nat.le_of_ble_eq_true rfl) ?_
  refine AR.if_eq (pc := 79) (tgt := 86) dX9_dry_79 (by decide) (fun c3 => ?_) (fun c3 => ?_)
  · replace h := ite_t c3 h
    refine AR.iconst (pc := 86) (v := 1) dX9_dry_86 (by decide) ?_
    refine AR.iload (pc := 87) (j := 4) dX9_dry_87 rfl ?_
    refine AR.ishl (pc := 89) dX9_dry_89 ?_
    exact AR.pick [0, 1, 2, 4, 5] rfl (A9_dry_90 k20 k32 x1 x2 x4 x5 (1 <<< (x4 &&& 31)) x3 hk20 hk32 (r2.2) r h)
  · replace h := ite_f c3 h
    refine AR.iconst (pc := 82) (v := 0) dX9_dry_82 (by decide) ?_
    refine AR.goto (pc := 83) (tgt := 90) dX9_dry_83 (by decide) ?_
    exact AR.pick [0, 1, 2, 4, 5] rfl (A9_dry_90 k20 k32 x1 x2 x4 x5 0 x3 hk20 hk32 (r2.2) r h)
set_option maxHeartbeats 4000000 in
set_option maxRecDepth 100000 in
theorem A9_dry_32_b {l : Launch} (k20 : Int32 × Int32 × HS → Option (Int32 × HS)) (k32 : Int32 × Int32 × HS → Option (Int32 × HS)) (x1 : Int32) (x2 : Int32) (x3 : Int32) (x4 : Int32) (x5 : Int32) (hk20 : ∀ (p : Int32 × Int32 × HS) (r : Int32 × HS), k20 p = some r → AR l RX9 cX9_dry 6 (some .int) (wsU yX9_dry cX9_dry 6 (some .int)) rm9_dry SM 20 [(0, .ref 0), (1, .int x1), (2, .int x2), (3, .int (p.1)), (4, .int (p.2.1))] [] p.2.2 (some (.int r.1), r.2)) (hk32 : ∀ (p : Int32 × Int32 × HS) (r : Int32 × HS), k32 p = some r → AR l RX9 cX9_dry 6 (some .int) (wsU yX9_dry cX9_dry 6 (some .int)) rm9_dry SM 32 [(0, .ref 0), (1, .int x1), (2, .int x2), (3, .int (p.1)), (4, .int x4), (5, .int (p.2.1))] [] p.2.2 (some (.int r.1), r.2)) (σ : HS) (r : Int32 × HS) (h : f9_dry_32_b k20 k32 x1 x2 x3 x4 x5 σ = some r) : AR l RX9 cX9_dry 6 (some .int) (wsU yX9_dry cX9_dry 6 (some .int)) rm9_dry SM 32 [(0, .ref 0), (1, .int x1), (2, .int x2), (3, .int x3), (4, .int x4), (5, .int x5)] [] σ (some (.int r.1), r.2) := by
  unfold f9_dry_32_b at h
  refine AR.iload (pc := 32) (j := 5) dX9_dry_32 rfl ?_
  refine AR.aload_n (pc := 34) (j := 0) dX9_dry_34 rfl rfl ?_
  refine AR.getf (pc := 35) (ci := 9) (j := 6) (d := 2 + 2) (v := .ref 2) (T := TX9) dX9_dry_35 rfl rfl rfl (by decide) (fun w hw => wsU_in (uw_X9 w hw)) (wsU_in fl_X9_13) rfl ?_
  refine AR.iload (pc := 38) (j := 4) dX9_dry_38 rfl ?_
  obtain ⟨c1, h⟩ := gn_some h
  refine AR.iaload (pc := 40) dX9_dry_40 rfl c1 ?_
  refine AR.icmp_ge (pc := 41) (tgt := 98) dX9_dry_41 (by decide) (fun c2 => ?_) (fun c2 => ?_)
  · replace h := ite_t c2 h
    exact AR.pick [0, 1, 2, 3, 4] rfl (A9_dry_98 k20 x1 x2 x3 x4 hk20 σ r h)
  · replace h := ite_f c2 h
    refine AR.iload (pc := 44) (j := 4) dX9_dry_44 rfl ?_
    refine AR.iload_n (pc := 46) (j := 1) dX9_dry_46 rfl rfl ?_
    refine AR.icmp_eq (pc := 47) (tgt := 98) dX9_dry_47 (by decide) (fun c3 => ?_) (fun c3 => ?_)
    · replace h := ite_t c3 h
      exact AR.pick [0, 1, 2, 3, 4] rfl (A9_dry_98 k20 x1 x2 x3 x4 hk20 σ r h)
    · replace h := ite_f c3 h
      refine AR.aload_n (pc := 50) (j := 0) dX9_dry_50 rfl rfl ?_
      refine AR.aload_n (pc := 51) (j := 0) dX9_dry_51 rfl rfl ?_
      refine AR.iload (pc := 52) (j := 4) dX9_dry_52 rfl ?_
      obtain ⟨r4, h4, h⟩ := bd_some h
      refine AR.callV (pc := 54) (As := [.int x4]) (st := [.ref 0]) (ci := 9) dX9_dry_54 ⟨cd_X9_placeOf, im_X9_placeOf, se_X9_placeOf, ini_X9⟩ ml_X9_179 (A9_placeOf x4 σ _ h4) ⟨rfl, pd_X9_placeOf⟩ ⟨Nat.le_of_ble_eq_true rfl, Nat.le_of_ble_eq_true rfl⟩ ⟨rfl, rfl⟩ rfl rfl rfl (Nat.le_of_ble_eq_true rfl) ?_
      refine AR.iload (pc := 57) (j := 5) dX9_dry_57 rfl ?_
      refine AR.if_ge (pc := 59) (tgt := 67) dX9_dry_59 (by decide) (fun c5 => ?_) (fun c5 => ?_)
      · replace h := ite_t c5 h
        refine AR.iload (pc := 67) (j := 5) dX9_dry_67 rfl ?_
        exact AR.pick [0, 1, 2, 3, 4, 5] rfl (A9_dry_69 k20 k32 x1 x2 x3 x4 x5 x5 (r4.1) hk20 hk32 (r4.2) r h)
      · replace h := ite_f c5 h
        refine AR.bipush (pc := 62) (v := (-9)) dX9_dry_62 (by decide) ?_
        refine AR.goto (pc := 64) (tgt := 69) dX9_dry_64 (by decide) ?_
        exact AR.pick [0, 1, 2, 3, 4, 5] rfl (A9_dry_69 k20 k32 x1 x2 x3 x4 x5 (-9) (r4.1) hk20 hk32 (r4.2) r h)
theorem A9_dry_32 {l : Launch} (k20 : Int32 × Int32 × HS → Option (Int32 × HS)) (x1 : Int32) (x2 : Int32) (x4 : Int32) (hk20 : ∀ (p : Int32 × Int32 × HS) (r : Int32 × HS), k20 p = some r → AR l RX9 cX9_dry 6 (some .int) (wsU yX9_dry cX9_dry 6 (some .int)) rm9_dry SM 20 [(0, .ref 0), (1, .int x1), (2, .int x2), (3, .int (p.1)), (4, .int (p.2.1))] [] p.2.2 (some (.int r.1), r.2)) (p : Int32 × Int32 × HS) (r : Int32 × HS) (h : f9_dry_32 k20 x1 x2 x4 p = some r) : AR l RX9 cX9_dry 6 (some .int) (wsU yX9_dry cX9_dry 6 (some .int)) rm9_dry SM 32 [(0, .ref 0), (1, .int x1), (2, .int x2), (3, .int (p.1)), (4, .int x4), (5, .int (p.2.1))] [] p.2.2 (some (.int r.1), r.2) := by
  unfold f9_dry_32 at h
  exact wloop_run (body := fun k32 p => f9_dry_32_b k20 k32 x1 x2 p.1 x4 p.2.1 p.2.2) (Q := fun p r => AR l RX9 cX9_dry 6 (some .int) (wsU yX9_dry cX9_dry 6 (some .int)) rm9_dry SM 32 [(0, .ref 0), (1, .int x1), (2, .int x2), (3, .int (p.1)), (4, .int x4), (5, .int (p.2.1))] [] p.2.2 (some (.int r.1), r.2)) (fun k32 hk32 p r h => A9_dry_32_b k20 k32 x1 x2 p.1 x4 p.2.1 hk20 hk32 p.2.2 r h) fuelN p r h
set_option maxHeartbeats 4000000 in
set_option maxRecDepth 100000 in
theorem A9_dry_20_b {l : Launch} (k20 : Int32 × Int32 × HS → Option (Int32 × HS)) (x1 : Int32) (x2 : Int32) (x3 : Int32) (x4 : Int32) (hk20 : ∀ (p : Int32 × Int32 × HS) (r : Int32 × HS), k20 p = some r → AR l RX9 cX9_dry 6 (some .int) (wsU yX9_dry cX9_dry 6 (some .int)) rm9_dry SM 20 [(0, .ref 0), (1, .int x1), (2, .int x2), (3, .int (p.1)), (4, .int (p.2.1))] [] p.2.2 (some (.int r.1), r.2)) (σ : HS) (r : Int32 × HS) (h : f9_dry_20_b k20 x1 x2 x3 x4 σ = some r) : AR l RX9 cX9_dry 6 (some .int) (wsU yX9_dry cX9_dry 6 (some .int)) rm9_dry SM 20 [(0, .ref 0), (1, .int x1), (2, .int x2), (3, .int x3), (4, .int x4)] [] σ (some (.int r.1), r.2) := by
  unfold f9_dry_20_b at h
  refine AR.iload (pc := 20) (j := 4) dX9_dry_20 rfl ?_
  refine AR.aload_n (pc := 22) (j := 0) dX9_dry_22 rfl rfl ?_
  refine AR.getf (pc := 23) (ci := 9) (j := 1) (d := 0) (v := .int (σ.1 0 1)) (T := TX9) dX9_dry_23 rfl rfl rfl (by decide) (fun w hw => wsU_in (uw_X9 w hw)) (wsU_in fl_X9_113) rfl ?_
  refine AR.icmp_ge (pc := 26) (tgt := 104) dX9_dry_26 (by decide) (fun c1 => ?_) (fun c1 => ?_)
  · replace h := ite_t c1 h
    refine AR.iload_n (pc := 104) (j := 3) dX9_dry_104 rfl rfl ?_
    exact AR.iret (pc := 105) rfl dX9_dry_105 (hrI (Option.some.inj h))
  · replace h := ite_f c1 h
    refine AR.iconst (pc := 29) (v := (-1)) dX9_dry_29 (by decide) ?_
    refine AR.istore (pc := 30) (L2 := [(5, .int (-1)), (0, .ref 0), (1, .int x1), (2, .int x2), (3, .int x3), (4, .int x4)]) dX9_dry_30 (by decide) rfl ?_
    exact AR.pick [1, 2, 3, 4, 5, 0] rfl (A9_dry_32 k20 x1 x2 x4 hk20 (x3, (-1), σ) r h)
theorem A9_dry_20 {l : Launch} (x1 : Int32) (x2 : Int32) (p : Int32 × Int32 × HS) (r : Int32 × HS) (h : f9_dry_20 x1 x2 p = some r) : AR l RX9 cX9_dry 6 (some .int) (wsU yX9_dry cX9_dry 6 (some .int)) rm9_dry SM 20 [(0, .ref 0), (1, .int x1), (2, .int x2), (3, .int (p.1)), (4, .int (p.2.1))] [] p.2.2 (some (.int r.1), r.2) := by
  unfold f9_dry_20 at h
  exact wloop_run (body := fun k20 p => f9_dry_20_b k20 x1 x2 p.1 p.2.1 p.2.2) (Q := fun p r => AR l RX9 cX9_dry 6 (some .int) (wsU yX9_dry cX9_dry 6 (some .int)) rm9_dry SM 20 [(0, .ref 0), (1, .int x1), (2, .int x2), (3, .int (p.1)), (4, .int (p.2.1))] [] p.2.2 (some (.int r.1), r.2)) (fun k20 hk20 p r h => A9_dry_20_b k20 x1 x2 p.1 p.2.1 hk20 p.2.2 r h) fuelN p r h
set_option maxHeartbeats 4000000 in
set_option maxRecDepth 100000 in
theorem A9_dry {l : Launch} (x1 : Int32) (x2 : Int32) (σ : HS) (r : Int32 × HS) (h : f9_dry x1 x2 σ = some r) : MA l yX9_dry (wsU yX9_dry cX9_dry 6 (some .int)) rm9_dry SM [.ref 0, .int x1, .int x2] σ (some (.int r.1), r.2) := by
  refine MA.of (L := [(0, .ref 0), (1, .int x1), (2, .int x2)]) pn_X9_dry rfl (fun _ => Nat.le_of_ble_eq_true rfl) (fun _ => rfl) ?_
  unfold f9_dry at h
  refine AR.aload_n (pc := 0) (j := 0) dX9_dry_0 rfl rfl ?_
  refine AR.iload_n (pc := 1) (j := 1) dX9_dry_1 rfl rfl ?_
  refine AR.iload_n (pc := 2) (j := 2) dX9_dry_2 rfl rfl ?_
  obtain ⟨r1, h1, h⟩ := bd_some h
  refine AR.callV (pc := 3) (As := [.int x1, .int x2]) (st := []) (ci := 9) dX9_dry_3 ⟨cd_X9_noWord, im_X9_noWord, se_X9_noWord, ini_X9⟩ ml_X9_182 (A9_noWord x1 x2 σ _ h1) ⟨rfl, pd_X9_noWord⟩ ⟨Nat.le_of_ble_eq_true rfl, Nat.le_of_ble_eq_true rfl⟩ ⟨rfl, rfl⟩ rfl rfl rfl (Nat.le_of_ble_eq_true rfl) ?_
  refine AR.if_eq (pc := 6) (tgt := 11) dX9_dry_6 (by decide) (fun c2 => ?_) (fun c2 => ?_)
  · replace h := ite_t c2 h
    refine AR.aload_n (pc := 11) (j := 0) dX9_dry_11 rfl rfl ?_
    obtain ⟨r3, h3, h⟩ := bd_some h
    refine AR.callV (pc := 12) (As := []) (st := []) (ci := 9) dX9_dry_12 ⟨cd_X9_layChoices, im_X9_layChoices, se_X9_layChoices, ini_X9⟩ ml_X9_244 (A9_layChoices (r1.2) _ h3) ⟨rfl, pd_X9_layChoices⟩ ⟨Nat.le_of_ble_eq_true rfl, Nat.le_of_ble_eq_true rfl⟩ ⟨rfl, rfl⟩ rfl rfl rfl (Nat.le_of_ble_eq_true rfl) ?_
    refine AR.iconst (pc := 15) (v := 0) dX9_dry_15 (by decide) ?_
    refine AR.istore_n (pc := 16) (L2 := [(3, .int 0), (0, .ref 0), (1, .int x1), (2, .int x2)]) dX9_dry_16 rfl (by decide) rfl ?_
    refine AR.iconst (pc := 17) (v := 0) dX9_dry_17 (by decide) ?_
    refine AR.istore (pc := 18) (L2 := [(4, .int 0), (3, .int 0), (0, .ref 0), (1, .int x1), (2, .int x2)]) dX9_dry_18 (by decide) rfl ?_
    exact AR.pick [2, 3, 4, 1, 0] rfl (A9_dry_20 x1 x2 (0, 0, r3) r h)
  · replace h := ite_f c2 h
    refine AR.iconst (pc := 9) (v := (-1)) dX9_dry_9 (by decide) ?_
    exact AR.iret (pc := 10) rfl dX9_dry_10 (hrI (Option.some.inj h))
noncomputable def f9_day_102_b (k102 : Int32 × HS → Option (Int32 × HS)) (x4 : Int32) (x6 : Int32) (x7 : Int32) (σ : HS) : Option (Int32 × HS) :=
  bd (f9_turnsNow σ) fun r1 =>
  if (r1.1 : Int32) ≤ x7 then
    if (((r1.2).1 0 29) : Int32) < 0 ∨ 6 ≤ (((r1.2).1 0 29) : Int32).toNatClampNeg then none else
    bd (f9_refused (((uI (uI (r1.2) 20 (((r1.2).1 0 29) : Int32).toNatClampNeg x4) 0 29 (((uI (r1.2) 20 (((r1.2).1 0 29) : Int32).toNatClampNeg x4).1 0 29) + 1)).1 0 29) - 1) (uI (uI (r1.2) 20 (((r1.2).1 0 29) : Int32).toNatClampNeg x4) 0 29 (((uI (r1.2) 20 (((r1.2).1 0 29) : Int32).toNatClampNeg x4).1 0 29) + 1))) fun r4 =>
    some (r4.1, r4.2)
  else
    if ((x6 + x7) : Int32) < 0 ∨ 400 ≤ ((x6 + x7) : Int32).toNatClampNeg then none else
    if (((6 * ((r1.2).1 0 29)) + x7) : Int32) < 0 ∨ 36 ≤ (((6 * ((r1.2).1 0 29)) + x7) : Int32).toNatClampNeg then none else
    k102 ((x7 + 1), (uI (r1.2) 19 (((6 * ((r1.2).1 0 29)) + x7) : Int32).toNatClampNeg ((r1.2).1 23 ((x6 + x7) : Int32).toNatClampNeg)))
noncomputable def f9_day_102 (x4 : Int32) (x6 : Int32) (p : Int32 × HS) : Option (Int32 × HS) :=
  wloop (fun k102 p => f9_day_102_b k102 x4 x6 p.1 p.2) fuelN p
noncomputable def f9_day (x1 : Int32) (x2 : Int32) (x3 : Int32) (x4 : Int32) (σ : HS) : Option (Int32 × HS) :=
  bd (f9_turnsNow σ) fun r1 =>
  bd (f9_barred x1 x2 x3 ((r1.1 : Int32).toInt64) (r1.2)) fun r2 =>
  if 0 ≤ (r2.1 : Int32) then
    if (((r2.2).1 0 1) : Int32) = 0 then
      bd (f9_refused (-3) (r2.2)) fun r14 =>
      some (r14.1, r14.2)
    else
      bd (f9_turnsNow (r2.2)) fun r5 =>
      bd (f9_areWords ((100 * x1) + x3) (r5.1) (r5.2)) fun r6 =>
      if (r6.1 : Int32) = 0 then
        bd (f9_refused (-1) (r6.2)) fun r13 =>
        some (r13.1, r13.2)
      else
        bd (f9_in ((x4 : Int32).toInt64) 0 99 (r6.2)) fun r8 =>
        if (r8.1 : Int32) = 0 then
          bd (f9_refused (-2) (r8.2)) fun r12 =>
          some (r12.1, r12.2)
        else
          if (((r8.2).1 0 29) : Int32) = 6 then
            bd (f9_refused (-4) (r8.2)) fun r11 =>
            some (r11.1, r11.2)
          else
            f9_day_102 x4 ((100 * x1) + x3) (0, r8.2)
  else
    some (r2.1, r2.2)
set_option maxHeartbeats 4000000 in
set_option maxRecDepth 100000 in
theorem A9_day_102_b {l : Launch} (k102 : Int32 × HS → Option (Int32 × HS)) (x4 : Int32) (x6 : Int32) (x7 : Int32) (hk102 : ∀ (p : Int32 × HS) (r : Int32 × HS), k102 p = some r → AR l RX9 cX9_day 8 (some .int) (wsU yX9_day cX9_day 8 (some .int)) rm9_day SM 102 [(0, .ref 0), (4, .int x4), (6, .int x6), (7, .int (p.1))] [] p.2 (some (.int r.1), r.2)) (σ : HS) (r : Int32 × HS) (h : f9_day_102_b k102 x4 x6 x7 σ = some r) : AR l RX9 cX9_day 8 (some .int) (wsU yX9_day cX9_day 8 (some .int)) rm9_day SM 102 [(0, .ref 0), (4, .int x4), (6, .int x6), (7, .int x7)] [] σ (some (.int r.1), r.2) := by
  unfold f9_day_102_b at h
  refine AR.iload (pc := 102) (j := 3) dX9_day_102 rfl ?_
  refine AR.aload_n (pc := 104) (j := 0) dX9_day_104 rfl rfl ?_
  obtain ⟨r1, h1, h⟩ := bd_some h
  refine AR.callV (pc := 105) (As := []) (st := [.int x7]) (ci := 9) dX9_day_105 ⟨cd_X9_turnsNow, im_X9_turnsNow, se_X9_turnsNow, ini_X9⟩ ml_X9_215 (A9_turnsNow σ _ h1) ⟨rfl, pd_X9_turnsNow⟩ ⟨Nat.le_of_ble_eq_true rfl, Nat.le_of_ble_eq_true rfl⟩ ⟨rfl, rfl⟩ rfl rfl rfl (Nat.le_of_ble_eq_true rfl) ?_
  refine AR.icmp_ge (pc := 108) (tgt := 142) dX9_day_108 (by decide) (fun c2 => ?_) (fun c2 => ?_)
  · replace h := ite_t c2 h
    refine AR.aload_n (pc := 142) (j := 0) dX9_day_142 rfl rfl ?_
    refine AR.getf (pc := 143) (ci := 9) (j := 31) (d := 20 + 2) (v := .ref 20) (T := TX9) dX9_day_143 rfl rfl rfl (by decide) (fun w hw => wsU_in (uw_X9 w hw)) (wsU_in fl_X9_67) rfl ?_
    refine AR.aload_n (pc := 146) (j := 0) dX9_day_146 rfl rfl ?_
    refine AR.getf (pc := 147) (ci := 9) (j := 29) (d := 0) (v := .int ((r1.2).1 0 29)) (T := TX9) dX9_day_147 rfl rfl rfl (by decide) (fun w hw => wsU_in (uw_X9 w hw)) (wsU_in fl_X9_176) rfl ?_
    refine AR.iload (pc := 150) (j := 1) dX9_day_150 rfl ?_
    obtain ⟨c3, h⟩ := gn_some h
    refine AR.iastore (pc := 152) dX9_day_152 rfl c3 ?_
    refine AR.aload_n (pc := 153) (j := 0) dX9_day_153 rfl rfl ?_
    refine AR.dup (pc := 154) dX9_day_154 rfl ?_
    refine AR.getf (pc := 155) (ci := 9) (j := 29) (d := 0) (v := .int ((uI (r1.2) 20 (((r1.2).1 0 29) : Int32).toNatClampNeg x4).1 0 29)) (T := TX9) dX9_day_155 rfl rfl rfl (by decide) (fun w hw => wsU_in (uw_X9 w hw)) (wsU_in fl_X9_176) rfl ?_
    refine AR.iconst (pc := 158) (v := 1) dX9_day_158 (by decide) ?_
    refine AR.iadd (pc := 159) dX9_day_159 ?_
    refine AR.putI (pc := 160) (ci := 9) (j := 29) (T := TX9) (ty0 := tyX9) (ty := .int) dX9_day_160 rfl rfl rfl (by decide) (fun w hw => wsU_in (uw_X9 w hw)) tyX9_ok nmX9 (wsU_in fl_X9_176) rfl (by decide +kernel) rfl rfl ?_
    refine AR.aload_n (pc := 163) (j := 0) dX9_day_163 rfl rfl ?_
    refine AR.aload_n (pc := 164) (j := 0) dX9_day_164 rfl rfl ?_
    refine AR.getf (pc := 165) (ci := 9) (j := 29) (d := 0) (v := .int ((uI (uI (r1.2) 20 (((r1.2).1 0 29) : Int32).toNatClampNeg x4) 0 29 (((uI (r1.2) 20 (((r1.2).1 0 29) : Int32).toNatClampNeg x4).1 0 29) + 1)).1 0 29)) (T := TX9) dX9_day_165 rfl rfl rfl (by decide) (fun w hw => wsU_in (uw_X9 w hw)) (wsU_in fl_X9_176) rfl ?_
    refine AR.iconst (pc := 168) (v := 1) dX9_day_168 (by decide) ?_
    refine AR.isub (pc := 169) dX9_day_169 ?_
    obtain ⟨r4, h4, h⟩ := bd_some h
    refine AR.callV (pc := 170) (As := [.int (((uI (uI (r1.2) 20 (((r1.2).1 0 29) : Int32).toNatClampNeg x4) 0 29 (((uI (r1.2) 20 (((r1.2).1 0 29) : Int32).toNatClampNeg x4).1 0 29) + 1)).1 0 29) - 1)]) (st := []) (ci := 9) dX9_day_170 ⟨cd_X9_refused, im_X9_refused, se_X9_refused, ini_X9⟩ ml_X9_96 (A9_refused (((uI (uI (r1.2) 20 (((r1.2).1 0 29) : Int32).toNatClampNeg x4) 0 29 (((uI (r1.2) 20 (((r1.2).1 0 29) : Int32).toNatClampNeg x4).1 0 29) + 1)).1 0 29) - 1) (uI (uI (r1.2) 20 (((r1.2).1 0 29) : Int32).toNatClampNeg x4) 0 29 (((uI (r1.2) 20 (((r1.2).1 0 29) : Int32).toNatClampNeg x4).1 0 29) + 1)) _ h4) ⟨rfl, pd_X9_refused⟩ ⟨Nat.le_of_ble_eq_true rfl, Nat.le_of_ble_eq_true rfl⟩ ⟨rfl, rfl⟩ rfl rfl rfl (Nat.le_of_ble_eq_true rfl) ?_
    exact AR.iret (pc := 173) rfl dX9_day_173 (hrI (Option.some.inj h))
  · replace h := ite_f c2 h
    refine AR.aload_n (pc := 111) (j := 0) dX9_day_111 rfl rfl ?_
    refine AR.getf (pc := 112) (ci := 9) (j := 30) (d := 19 + 2) (v := .ref 19) (T := TX9) dX9_day_112 rfl rfl rfl (by decide) (fun w hw => wsU_in (uw_X9 w hw)) (wsU_in fl_X9_64) rfl ?_
    refine AR.bipush (pc := 115) (v := 6) dX9_day_115 (by decide) ?_
    refine AR.aload_n (pc := 117) (j := 0) dX9_day_117 rfl rfl ?_
    refine AR.getf (pc := 118) (ci := 9) (j := 29) (d := 0) (v := .int ((r1.2).1 0 29)) (T := TX9) dX9_day_118 rfl rfl rfl (by decide) (fun w hw => wsU_in (uw_X9 w hw)) (wsU_in fl_X9_176) rfl ?_
    refine AR.imul (pc := 121) dX9_day_121 ?_
    refine AR.iload (pc := 122) (j := 3) dX9_day_122 rfl ?_
    refine AR.iadd (pc := 124) dX9_day_124 ?_
    refine AR.aload_n (pc := 125) (j := 0) dX9_day_125 rfl rfl ?_
    refine AR.getf (pc := 126) (ci := 9) (j := 34) (d := 23 + 2) (v := .ref 23) (T := TX9) dX9_day_126 rfl rfl rfl (by decide) (fun w hw => wsU_in (uw_X9 w hw)) (wsU_in fl_X9_76) rfl ?_
    refine AR.iload (pc := 129) (j := 2) dX9_day_129 rfl ?_
    refine AR.iload (pc := 131) (j := 3) dX9_day_131 rfl ?_
    refine AR.iadd (pc := 133) dX9_day_133 ?_
    obtain ⟨c5, h⟩ := gn_some h
    refine AR.iaload (pc := 134) dX9_day_134 rfl c5 ?_
    obtain ⟨c6, h⟩ := gn_some h
    refine AR.iastore (pc := 135) dX9_day_135 rfl c6 ?_
    refine AR.iinc (pc := 136) (j := 3) (v := (x7 + 1)) (L2 := [(7, .int (x7 + 1)), (0, .ref 0), (4, .int x4), (6, .int x6)]) dX9_day_136 rfl rfl (by decide) rfl ?_
    refine AR.goto (pc := 139) (tgt := 102) dX9_day_139 (by decide) ?_
    exact AR.pick [1, 2, 3, 0] rfl (hk102 ((x7 + 1), (uI (r1.2) 19 (((6 * ((r1.2).1 0 29)) + x7) : Int32).toNatClampNeg ((r1.2).1 23 ((x6 + x7) : Int32).toNatClampNeg))) r h)
theorem A9_day_102 {l : Launch} (x4 : Int32) (x6 : Int32) (p : Int32 × HS) (r : Int32 × HS) (h : f9_day_102 x4 x6 p = some r) : AR l RX9 cX9_day 8 (some .int) (wsU yX9_day cX9_day 8 (some .int)) rm9_day SM 102 [(0, .ref 0), (4, .int x4), (6, .int x6), (7, .int (p.1))] [] p.2 (some (.int r.1), r.2) := by
  unfold f9_day_102 at h
  exact wloop_run (body := fun k102 p => f9_day_102_b k102 x4 x6 p.1 p.2) (Q := fun p r => AR l RX9 cX9_day 8 (some .int) (wsU yX9_day cX9_day 8 (some .int)) rm9_day SM 102 [(0, .ref 0), (4, .int x4), (6, .int x6), (7, .int (p.1))] [] p.2 (some (.int r.1), r.2)) (fun k102 hk102 p r h => A9_day_102_b k102 x4 x6 p.1 hk102 p.2 r h) fuelN p r h
set_option maxHeartbeats 4000000 in
set_option maxRecDepth 100000 in
theorem A9_day {l : Launch} (x1 : Int32) (x2 : Int32) (x3 : Int32) (x4 : Int32) (σ : HS) (r : Int32 × HS) (h : f9_day x1 x2 x3 x4 σ = some r) : MA l yX9_day (wsU yX9_day cX9_day 8 (some .int)) rm9_day SM [.ref 0, .int x1, .int x2, .int x3, .int x4] σ (some (.int r.1), r.2) := by
  refine MA.of (L := [(0, .ref 0), (1, .int x1), (2, .int x2), (3, .int x3), (4, .int x4)]) pn_X9_day rfl (fun _ => Nat.le_of_ble_eq_true rfl) (fun _ => rfl) ?_
  unfold f9_day at h
  refine AR.aload_n (pc := 0) (j := 0) dX9_day_0 rfl rfl ?_
  refine AR.iload_n (pc := 1) (j := 1) dX9_day_1 rfl rfl ?_
  refine AR.iload_n (pc := 2) (j := 2) dX9_day_2 rfl rfl ?_
  refine AR.iload_n (pc := 3) (j := 3) dX9_day_3 rfl rfl ?_
  refine AR.aload_n (pc := 4) (j := 0) dX9_day_4 rfl rfl ?_
  obtain ⟨r1, h1, h⟩ := bd_some h
  refine AR.callV (pc := 5) (As := []) (st := [.int x3, .int x2, .int x1, .ref 0]) (ci := 9) dX9_day_5 ⟨cd_X9_turnsNow, im_X9_turnsNow, se_X9_turnsNow, ini_X9⟩ ml_X9_215 (A9_turnsNow σ _ h1) ⟨rfl, pd_X9_turnsNow⟩ ⟨Nat.le_of_ble_eq_true rfl, Nat.le_of_ble_eq_true rfl⟩ ⟨rfl, rfl⟩ rfl rfl rfl (Nat.le_of_ble_eq_true rfl) ?_
  refine AR.i2l (pc := 8) dX9_day_8 ?_
  obtain ⟨r2, h2, h⟩ := bd_some h
  refine AR.callV (pc := 9) (As := [.int x1, .int x2, .int x3, .long ((r1.1 : Int32).toInt64)]) (st := []) (ci := 9) dX9_day_9 ⟨cd_X9_barred, im_X9_barred, se_X9_barred, ini_X9⟩ ml_X9_160 (A9_barred x1 x2 x3 ((r1.1 : Int32).toInt64) (r1.2) _ h2) ⟨rfl, pd_X9_barred⟩ ⟨Nat.le_of_ble_eq_true rfl, Nat.le_of_ble_eq_true rfl⟩ ⟨rfl, rfl⟩ rfl rfl rfl (Nat.le_of_ble_eq_true rfl) ?_
  refine AR.istore (pc := 12) (L2 := [(5, .int (r2.1)), (0, .ref 0), (1, .int x1), (2, .int x2), (3, .int x3), (4, .int x4)]) dX9_day_12 (by decide) rfl ?_
  refine AR.iload (pc := 14) (j := 0) dX9_day_14 rfl ?_
  refine AR.if_ge (pc := 16) (tgt := 22) dX9_day_16 (by decide) (fun c3 => ?_) (fun c3 => ?_)
  · replace h := ite_t c3 h
    refine AR.aload_n (pc := 22) (j := 1) dX9_day_22 rfl rfl ?_
    refine AR.getf (pc := 23) (ci := 9) (j := 1) (d := 0) (v := .int ((r2.2).1 0 1)) (T := TX9) dX9_day_23 rfl rfl rfl (by decide) (fun w hw => wsU_in (uw_X9 w hw)) (wsU_in fl_X9_113) rfl ?_
    refine AR.if_ne (pc := 26) (tgt := 36) dX9_day_26 (by decide) (fun c4 => ?_) (fun c4 => ?_)
    · replace h := ite_f c4 h
      refine AR.bipush (pc := 36) (v := 100) dX9_day_36 (by decide) ?_
      refine AR.iload_n (pc := 38) (j := 2) dX9_day_38 rfl rfl ?_
      refine AR.imul (pc := 39) dX9_day_39 ?_
      refine AR.iload_n (pc := 40) (j := 4) dX9_day_40 rfl rfl ?_
      refine AR.iadd (pc := 41) dX9_day_41 ?_
      refine AR.istore (pc := 42) (L2 := [(6, .int ((100 * x1) + x3)), (5, .int (r2.1)), (0, .ref 0), (1, .int x1), (2, .int x2), (3, .int x3), (4, .int x4)]) dX9_day_42 (by decide) rfl ?_
      refine AR.aload_n (pc := 44) (j := 2) dX9_day_44 rfl rfl ?_
      refine AR.iload (pc := 45) (j := 0) dX9_day_45 rfl ?_
      refine AR.aload_n (pc := 47) (j := 2) dX9_day_47 rfl rfl ?_
      obtain ⟨r5, h5, h⟩ := bd_some h
      refine AR.callV (pc := 48) (As := []) (st := [.int ((100 * x1) + x3), .ref 0]) (ci := 9) dX9_day_48 ⟨cd_X9_turnsNow, im_X9_turnsNow, se_X9_turnsNow, ini_X9⟩ ml_X9_215 (A9_turnsNow (r2.2) _ h5) ⟨rfl, pd_X9_turnsNow⟩ ⟨Nat.le_of_ble_eq_true rfl, Nat.le_of_ble_eq_true rfl⟩ ⟨rfl, rfl⟩ rfl rfl rfl (Nat.le_of_ble_eq_true rfl) ?_
      obtain ⟨r6, h6, h⟩ := bd_some h
      refine AR.callV (pc := 51) (As := [.int ((100 * x1) + x3), .int (r5.1)]) (st := []) (ci := 9) dX9_day_51 ⟨cd_X9_areWords, im_X9_areWords, se_X9_areWords, ini_X9⟩ ml_X9_218 (A9_areWords ((100 * x1) + x3) (r5.1) (r5.2) _ h6) ⟨rfl, pd_X9_areWords⟩ ⟨Nat.le_of_ble_eq_true rfl, Nat.le_of_ble_eq_true rfl⟩ ⟨rfl, rfl⟩ rfl rfl rfl (Nat.le_of_ble_eq_true rfl) ?_
      refine AR.if_ne (pc := 54) (tgt := 63) dX9_day_54 (by decide) (fun c7 => ?_) (fun c7 => ?_)
      · replace h := ite_f c7 h
        refine AR.iload (pc := 63) (j := 6) dX9_day_63 rfl ?_
        refine AR.i2l (pc := 65) dX9_day_65 ?_
        refine AR.lconst (pc := 66) (v := 0) dX9_day_66 (by decide) ?_
        refine AR.ldc2 (pc := 67) (v := 99) dX9_day_67 (wsU_in kl_X9_277) ?_
        obtain ⟨r8, h8, h⟩ := bd_some h
        refine AR.callS (pc := 70) (As := [.long ((x4 : Int32).toInt64), .long 0, .long 99]) (st := []) dX9_day_70 ⟨cd_X9_in, sm_X9_in, ini_X9⟩ ml_X9_102 (A9_in ((x4 : Int32).toInt64) 0 99 (r6.2) _ h8) ⟨rfl, pd_X9_in⟩ ⟨Nat.le_of_ble_eq_true rfl, Nat.le_of_ble_eq_true rfl⟩ ⟨rfl, rfl⟩ rfl (Nat.le_of_ble_eq_true rfl) ?_
        refine AR.if_ne (pc := 73) (tgt := 83) dX9_day_73 (by decide) (fun c9 => ?_) (fun c9 => ?_)
        · replace h := ite_f c9 h
          refine AR.aload_n (pc := 83) (j := 2) dX9_day_83 rfl rfl ?_
          refine AR.getf (pc := 84) (ci := 9) (j := 29) (d := 0) (v := .int ((r8.2).1 0 29)) (T := TX9) dX9_day_84 rfl rfl rfl (by decide) (fun w hw => wsU_in (uw_X9 w hw)) (wsU_in fl_X9_176) rfl ?_
          refine AR.bipush (pc := 87) (v := 6) dX9_day_87 (by decide) ?_
          refine AR.icmp_ne (pc := 89) (tgt := 99) dX9_day_89 (by decide) (fun c10 => ?_) (fun c10 => ?_)
          · replace h := ite_f c10 h
            refine AR.iconst (pc := 99) (v := 0) dX9_day_99 (by decide) ?_
            refine AR.istore (pc := 100) (L2 := [(7, .int 0), (6, .int ((100 * x1) + x3)), (5, .int (r2.1)), (0, .ref 0), (1, .int x1), (2, .int x2), (3, .int x3), (4, .int x4)]) dX9_day_100 (by decide) rfl ?_
            exact AR.pick [3, 7, 1, 0] rfl (A9_day_102 x4 ((100 * x1) + x3) (0, r8.2) r h)
          · replace h := ite_t c10 h
            refine AR.aload_n (pc := 92) (j := 2) dX9_day_92 rfl rfl ?_
            refine AR.bipush (pc := 93) (v := (-4)) dX9_day_93 (by decide) ?_
            obtain ⟨r11, h11, h⟩ := bd_some h
            refine AR.callV (pc := 95) (As := [.int (-4)]) (st := []) (ci := 9) dX9_day_95 ⟨cd_X9_refused, im_X9_refused, se_X9_refused, ini_X9⟩ ml_X9_96 (A9_refused (-4) (r8.2) _ h11) ⟨rfl, pd_X9_refused⟩ ⟨Nat.le_of_ble_eq_true rfl, Nat.le_of_ble_eq_true rfl⟩ ⟨rfl, rfl⟩ rfl rfl rfl (Nat.le_of_ble_eq_true rfl) ?_
            exact AR.iret (pc := 98) rfl dX9_day_98 (hrI (Option.some.inj h))
        · replace h := ite_t c9 h
          refine AR.aload_n (pc := 76) (j := 2) dX9_day_76 rfl rfl ?_
          refine AR.bipush (pc := 77) (v := (-2)) dX9_day_77 (by decide) ?_
          obtain ⟨r12, h12, h⟩ := bd_some h
          refine AR.callV (pc := 79) (As := [.int (-2)]) (st := []) (ci := 9) dX9_day_79 ⟨cd_X9_refused, im_X9_refused, se_X9_refused, ini_X9⟩ ml_X9_96 (A9_refused (-2) (r8.2) _ h12) ⟨rfl, pd_X9_refused⟩ ⟨Nat.le_of_ble_eq_true rfl, Nat.le_of_ble_eq_true rfl⟩ ⟨rfl, rfl⟩ rfl rfl rfl (Nat.le_of_ble_eq_true rfl) ?_
          exact AR.iret (pc := 82) rfl dX9_day_82 (hrI (Option.some.inj h))
      · replace h := ite_t c7 h
        refine AR.aload_n (pc := 57) (j := 2) dX9_day_57 rfl rfl ?_
        refine AR.iconst (pc := 58) (v := (-1)) dX9_day_58 (by decide) ?_
        obtain ⟨r13, h13, h⟩ := bd_some h
        refine AR.callV (pc := 59) (As := [.int (-1)]) (st := []) (ci := 9) dX9_day_59 ⟨cd_X9_refused, im_X9_refused, se_X9_refused, ini_X9⟩ ml_X9_96 (A9_refused (-1) (r6.2) _ h13) ⟨rfl, pd_X9_refused⟩ ⟨Nat.le_of_ble_eq_true rfl, Nat.le_of_ble_eq_true rfl⟩ ⟨rfl, rfl⟩ rfl rfl rfl (Nat.le_of_ble_eq_true rfl) ?_
        exact AR.iret (pc := 62) rfl dX9_day_62 (hrI (Option.some.inj h))
    · replace h := ite_t c4 h
      refine AR.aload_n (pc := 29) (j := 1) dX9_day_29 rfl rfl ?_
      refine AR.bipush (pc := 30) (v := (-3)) dX9_day_30 (by decide) ?_
      obtain ⟨r14, h14, h⟩ := bd_some h
      refine AR.callV (pc := 32) (As := [.int (-3)]) (st := []) (ci := 9) dX9_day_32 ⟨cd_X9_refused, im_X9_refused, se_X9_refused, ini_X9⟩ ml_X9_96 (A9_refused (-3) (r2.2) _ h14) ⟨rfl, pd_X9_refused⟩ ⟨Nat.le_of_ble_eq_true rfl, Nat.le_of_ble_eq_true rfl⟩ ⟨rfl, rfl⟩ rfl rfl rfl (Nat.le_of_ble_eq_true rfl) ?_
      exact AR.iret (pc := 35) rfl dX9_day_35 (hrI (Option.some.inj h))
  · replace h := ite_f c3 h
    refine AR.iload (pc := 19) (j := 0) dX9_day_19 rfl ?_
    exact AR.iret (pc := 21) rfl dX9_day_21 (hrI (Option.some.inj h))
noncomputable def f9_back (x1 : Int32) (σ : HS) : Option (Int32 × HS) :=
  bd (f9_in ((x1 : Int32).toInt64) 0 (((σ.1 0 29) : Int32).toInt64) σ) fun r1 =>
  if (r1.1 : Int32) = 0 then
    some ((-2), r1.2)
  else
    some (((uI (r1.2) 0 29 (((r1.2).1 0 29) - x1)).1 0 29), (uI (r1.2) 0 29 (((r1.2).1 0 29) - x1)))
set_option maxHeartbeats 4000000 in
set_option maxRecDepth 100000 in
theorem A9_back {l : Launch} (x1 : Int32) (σ : HS) (r : Int32 × HS) (h : f9_back x1 σ = some r) : MA l yX9_back (wsU yX9_back cX9_back 2 (some .int)) rm9_back SM [.ref 0, .int x1] σ (some (.int r.1), r.2) := by
  refine MA.of (L := [(0, .ref 0), (1, .int x1)]) pn_X9_back rfl (fun _ => Nat.le_of_ble_eq_true rfl) (fun _ => rfl) ?_
  unfold f9_back at h
  refine AR.iload_n (pc := 0) (j := 1) dX9_back_0 rfl rfl ?_
  refine AR.i2l (pc := 1) dX9_back_1 ?_
  refine AR.lconst (pc := 2) (v := 0) dX9_back_2 (by decide) ?_
  refine AR.aload_n (pc := 3) (j := 0) dX9_back_3 rfl rfl ?_
  refine AR.getf (pc := 4) (ci := 9) (j := 29) (d := 0) (v := .int (σ.1 0 29)) (T := TX9) dX9_back_4 rfl rfl rfl (by decide) (fun w hw => wsU_in (uw_X9 w hw)) (wsU_in fl_X9_176) rfl ?_
  refine AR.i2l (pc := 7) dX9_back_7 ?_
  obtain ⟨r1, h1, h⟩ := bd_some h
  refine AR.callS (pc := 8) (As := [.long ((x1 : Int32).toInt64), .long 0, .long (((σ.1 0 29) : Int32).toInt64)]) (st := []) dX9_back_8 ⟨cd_X9_in, sm_X9_in, ini_X9⟩ ml_X9_102 (A9_in ((x1 : Int32).toInt64) 0 (((σ.1 0 29) : Int32).toInt64) σ _ h1) ⟨rfl, pd_X9_in⟩ ⟨Nat.le_of_ble_eq_true rfl, Nat.le_of_ble_eq_true rfl⟩ ⟨rfl, rfl⟩ rfl (Nat.le_of_ble_eq_true rfl) ?_
  refine AR.if_ne (pc := 11) (tgt := 17) dX9_back_11 (by decide) (fun c2 => ?_) (fun c2 => ?_)
  · replace h := ite_f c2 h
    refine AR.aload_n (pc := 17) (j := 0) dX9_back_17 rfl rfl ?_
    refine AR.dup (pc := 18) dX9_back_18 rfl ?_
    refine AR.getf (pc := 19) (ci := 9) (j := 29) (d := 0) (v := .int ((r1.2).1 0 29)) (T := TX9) dX9_back_19 rfl rfl rfl (by decide) (fun w hw => wsU_in (uw_X9 w hw)) (wsU_in fl_X9_176) rfl ?_
    refine AR.iload_n (pc := 22) (j := 1) dX9_back_22 rfl rfl ?_
    refine AR.isub (pc := 23) dX9_back_23 ?_
    refine AR.putI (pc := 24) (ci := 9) (j := 29) (T := TX9) (ty0 := tyX9) (ty := .int) dX9_back_24 rfl rfl rfl (by decide) (fun w hw => wsU_in (uw_X9 w hw)) tyX9_ok nmX9 (wsU_in fl_X9_176) rfl (by decide +kernel) rfl rfl ?_
    refine AR.aload_n (pc := 27) (j := 0) dX9_back_27 rfl rfl ?_
    refine AR.getf (pc := 28) (ci := 9) (j := 29) (d := 0) (v := .int ((uI (r1.2) 0 29 (((r1.2).1 0 29) - x1)).1 0 29)) (T := TX9) dX9_back_28 rfl rfl rfl (by decide) (fun w hw => wsU_in (uw_X9 w hw)) (wsU_in fl_X9_176) rfl ?_
    exact AR.iret (pc := 31) rfl dX9_back_31 (hrI (Option.some.inj h))
  · replace h := ite_t c2 h
    refine AR.bipush (pc := 14) (v := (-2)) dX9_back_14 (by decide) ?_
    exact AR.iret (pc := 16) rfl dX9_back_16 (hrI (Option.some.inj h))
noncomputable def f9_endsSo_6_b (k6 : Int32 × HS → Option (Int32 × HS)) (x1 : Int32) (x2 : Int32) (x3 : Int32) (σ : HS) : Option (Int32 × HS) :=
  bd (f9_turnsNow σ) fun r1 =>
  if (r1.1 : Int32) ≤ x3 then
    bd (f9_turnsNow (r1.2)) fun r3 =>
    if (r3.1 : Int32) < 0 ∨ 7 ≤ (r3.1 : Int32).toNatClampNeg then none else
    if (x1 : Int32) < 0 ∨ 6 ≤ (x1 : Int32).toNatClampNeg then none else
    if (((r3.2).1 13 (r3.1 : Int32).toNatClampNeg) : Int32) = ((r3.2).1 20 (x1 : Int32).toNatClampNeg) then
      some (1, r3.2)
    else
      some (0, r3.2)
  else
    if (((6 * x1) + x3) : Int32) < 0 ∨ 36 ≤ (((6 * x1) + x3) : Int32).toNatClampNeg then none else
    bd (f9_goTurn x3 ((r1.2).1 19 (((6 * x1) + x3) : Int32).toNatClampNeg) x2 (r1.2)) fun r8 =>
    k6 ((x3 + 1), r8)
noncomputable def f9_endsSo_6 (x1 : Int32) (x2 : Int32) (p : Int32 × HS) : Option (Int32 × HS) :=
  wloop (fun k6 p => f9_endsSo_6_b k6 x1 x2 p.1 p.2) fuelN p
noncomputable def f9_endsSo (x1 : Int32) (x2 : Int32) (σ : HS) : Option (Int32 × HS) :=
  bd (f9_beginDay σ) fun r1 =>
  f9_endsSo_6 x1 x2 (0, r1)
set_option maxHeartbeats 4000000 in
set_option maxRecDepth 100000 in
theorem A9_endsSo_6_b {l : Launch} (k6 : Int32 × HS → Option (Int32 × HS)) (x1 : Int32) (x2 : Int32) (x3 : Int32) (hk6 : ∀ (p : Int32 × HS) (r : Int32 × HS), k6 p = some r → AR l RX9 cX9_endsSo 4 (some .boolean) (wsU yX9_endsSo cX9_endsSo 4 (some .boolean)) rm9_endsSo SM 6 [(0, .ref 0), (1, .int x1), (2, .int x2), (3, .int (p.1))] [] p.2 (some (.int r.1), r.2)) (σ : HS) (r : Int32 × HS) (h : f9_endsSo_6_b k6 x1 x2 x3 σ = some r) : AR l RX9 cX9_endsSo 4 (some .boolean) (wsU yX9_endsSo cX9_endsSo 4 (some .boolean)) rm9_endsSo SM 6 [(0, .ref 0), (1, .int x1), (2, .int x2), (3, .int x3)] [] σ (some (.int r.1), r.2) := by
  unfold f9_endsSo_6_b at h
  refine AR.iload_n (pc := 6) (j := 3) dX9_endsSo_6 rfl rfl ?_
  refine AR.aload_n (pc := 7) (j := 0) dX9_endsSo_7 rfl rfl ?_
  obtain ⟨r1, h1, h⟩ := bd_some h
  refine AR.callV (pc := 8) (As := []) (st := [.int x3]) (ci := 9) dX9_endsSo_8 ⟨cd_X9_turnsNow, im_X9_turnsNow, se_X9_turnsNow, ini_X9⟩ ml_X9_215 (A9_turnsNow σ _ h1) ⟨rfl, pd_X9_turnsNow⟩ ⟨Nat.le_of_ble_eq_true rfl, Nat.le_of_ble_eq_true rfl⟩ ⟨rfl, rfl⟩ rfl rfl rfl (Nat.le_of_ble_eq_true rfl) ?_
  refine AR.icmp_ge (pc := 11) (tgt := 37) dX9_endsSo_11 (by decide) (fun c2 => ?_) (fun c2 => ?_)
  · replace h := ite_t c2 h
    refine AR.aload_n (pc := 37) (j := 0) dX9_endsSo_37 rfl rfl ?_
    refine AR.getf (pc := 38) (ci := 9) (j := 21) (d := 13 + 2) (v := .ref 13) (T := TX9) dX9_endsSo_38 rfl rfl rfl (by decide) (fun w hw => wsU_in (uw_X9 w hw)) (wsU_in fl_X9_46) rfl ?_
    refine AR.aload_n (pc := 41) (j := 0) dX9_endsSo_41 rfl rfl ?_
    obtain ⟨r3, h3, h⟩ := bd_some h
    refine AR.callV (pc := 42) (As := []) (st := [.ref 13]) (ci := 9) dX9_endsSo_42 ⟨cd_X9_turnsNow, im_X9_turnsNow, se_X9_turnsNow, ini_X9⟩ ml_X9_215 (A9_turnsNow (r1.2) _ h3) ⟨rfl, pd_X9_turnsNow⟩ ⟨Nat.le_of_ble_eq_true rfl, Nat.le_of_ble_eq_true rfl⟩ ⟨rfl, rfl⟩ rfl rfl rfl (Nat.le_of_ble_eq_true rfl) ?_
    obtain ⟨c4, h⟩ := gn_some h
    refine AR.iaload (pc := 45) dX9_endsSo_45 rfl c4 ?_
    refine AR.aload_n (pc := 46) (j := 0) dX9_endsSo_46 rfl rfl ?_
    refine AR.getf (pc := 47) (ci := 9) (j := 31) (d := 20 + 2) (v := .ref 20) (T := TX9) dX9_endsSo_47 rfl rfl rfl (by decide) (fun w hw => wsU_in (uw_X9 w hw)) (wsU_in fl_X9_67) rfl ?_
    refine AR.iload_n (pc := 50) (j := 1) dX9_endsSo_50 rfl rfl ?_
    obtain ⟨c5, h⟩ := gn_some h
    refine AR.iaload (pc := 51) dX9_endsSo_51 rfl c5 ?_
    refine AR.icmp_ne (pc := 52) (tgt := 59) dX9_endsSo_52 (by decide) (fun c6 => ?_) (fun c6 => ?_)
    · replace h := ite_f c6 h
      refine AR.iconst (pc := 59) (v := 0) dX9_endsSo_59 (by decide) ?_
      exact AR.zret (pc := 60) rfl (Or.inl rfl) dX9_endsSo_60 (hrI (Option.some.inj h))
    · replace h := ite_t c6 h
      refine AR.iconst (pc := 55) (v := 1) dX9_endsSo_55 (by decide) ?_
      refine AR.goto (pc := 56) (tgt := 60) dX9_endsSo_56 (by decide) ?_
      exact AR.zret (pc := 60) rfl (Or.inr rfl) dX9_endsSo_60 (hrI (Option.some.inj h))
  · replace h := ite_f c2 h
    refine AR.aload_n (pc := 14) (j := 0) dX9_endsSo_14 rfl rfl ?_
    refine AR.iload_n (pc := 15) (j := 3) dX9_endsSo_15 rfl rfl ?_
    refine AR.aload_n (pc := 16) (j := 0) dX9_endsSo_16 rfl rfl ?_
    refine AR.getf (pc := 17) (ci := 9) (j := 30) (d := 19 + 2) (v := .ref 19) (T := TX9) dX9_endsSo_17 rfl rfl rfl (by decide) (fun w hw => wsU_in (uw_X9 w hw)) (wsU_in fl_X9_64) rfl ?_
    refine AR.bipush (pc := 20) (v := 6) dX9_endsSo_20 (by decide) ?_
    refine AR.iload_n (pc := 22) (j := 1) dX9_endsSo_22 rfl rfl ?_
    refine AR.imul (pc := 23) dX9_endsSo_23 ?_
    refine AR.iload_n (pc := 24) (j := 3) dX9_endsSo_24 rfl rfl ?_
    refine AR.iadd (pc := 25) dX9_endsSo_25 ?_
    obtain ⟨c7, h⟩ := gn_some h
    refine AR.iaload (pc := 26) dX9_endsSo_26 rfl c7 ?_
    refine AR.iload_n (pc := 27) (j := 2) dX9_endsSo_27 rfl rfl ?_
    obtain ⟨r8, h8, h⟩ := bd_some h
    refine AR.callV (pc := 28) (As := [.int x3, .int ((r1.2).1 19 (((6 * x1) + x3) : Int32).toNatClampNeg), .int x2]) (st := []) (ci := 9) dX9_endsSo_28 ⟨cd_X9_goTurn, im_X9_goTurn, se_X9_goTurn, ini_X9⟩ ml_X9_224 (A9_goTurn x3 ((r1.2).1 19 (((6 * x1) + x3) : Int32).toNatClampNeg) x2 (r1.2) _ h8) ⟨rfl, pd_X9_goTurn⟩ ⟨Nat.le_of_ble_eq_true rfl, Nat.le_of_ble_eq_true rfl⟩ ⟨rfl, rfl⟩ rfl rfl rfl (Nat.le_of_ble_eq_true rfl) ?_
    refine AR.iinc (pc := 31) (j := 3) (v := (x3 + 1)) (L2 := [(3, .int (x3 + 1)), (0, .ref 0), (1, .int x1), (2, .int x2)]) dX9_endsSo_31 rfl rfl (by decide) rfl ?_
    refine AR.goto (pc := 34) (tgt := 6) dX9_endsSo_34 (by decide) ?_
    exact AR.pick [1, 2, 3, 0] rfl (hk6 ((x3 + 1), r8) r h)
theorem A9_endsSo_6 {l : Launch} (x1 : Int32) (x2 : Int32) (p : Int32 × HS) (r : Int32 × HS) (h : f9_endsSo_6 x1 x2 p = some r) : AR l RX9 cX9_endsSo 4 (some .boolean) (wsU yX9_endsSo cX9_endsSo 4 (some .boolean)) rm9_endsSo SM 6 [(0, .ref 0), (1, .int x1), (2, .int x2), (3, .int (p.1))] [] p.2 (some (.int r.1), r.2) := by
  unfold f9_endsSo_6 at h
  exact wloop_run (body := fun k6 p => f9_endsSo_6_b k6 x1 x2 p.1 p.2) (Q := fun p r => AR l RX9 cX9_endsSo 4 (some .boolean) (wsU yX9_endsSo cX9_endsSo 4 (some .boolean)) rm9_endsSo SM 6 [(0, .ref 0), (1, .int x1), (2, .int x2), (3, .int (p.1))] [] p.2 (some (.int r.1), r.2)) (fun k6 hk6 p r h => A9_endsSo_6_b k6 x1 x2 p.1 hk6 p.2 r h) fuelN p r h
set_option maxHeartbeats 4000000 in
set_option maxRecDepth 100000 in
theorem A9_endsSo {l : Launch} (x1 : Int32) (x2 : Int32) (σ : HS) (r : Int32 × HS) (h : f9_endsSo x1 x2 σ = some r) : MA l yX9_endsSo (wsU yX9_endsSo cX9_endsSo 4 (some .boolean)) rm9_endsSo SM [.ref 0, .int x1, .int x2] σ (some (.int r.1), r.2) := by
  refine MA.of (L := [(0, .ref 0), (1, .int x1), (2, .int x2)]) pn_X9_endsSo rfl (fun _ => Nat.le_of_ble_eq_true rfl) (fun _ => rfl) ?_
  unfold f9_endsSo at h
  refine AR.aload_n (pc := 0) (j := 0) dX9_endsSo_0 rfl rfl ?_
  obtain ⟨r1, h1, h⟩ := bd_some h
  refine AR.callV (pc := 1) (As := []) (st := []) (ci := 9) dX9_endsSo_1 ⟨cd_X9_beginDay, im_X9_beginDay, se_X9_beginDay, ini_X9⟩ ml_X9_221 (A9_beginDay σ _ h1) ⟨rfl, pd_X9_beginDay⟩ ⟨Nat.le_of_ble_eq_true rfl, Nat.le_of_ble_eq_true rfl⟩ ⟨rfl, rfl⟩ rfl rfl rfl (Nat.le_of_ble_eq_true rfl) ?_
  refine AR.iconst (pc := 4) (v := 0) dX9_endsSo_4 (by decide) ?_
  refine AR.istore_n (pc := 5) (L2 := [(3, .int 0), (0, .ref 0), (1, .int x1), (2, .int x2)]) dX9_endsSo_5 rfl (by decide) rfl ?_
  exact AR.pick [1, 2, 3, 0] rfl (A9_endsSo_6 x1 x2 (0, r1) r h)
noncomputable def f9_guess_139 (k31 : Int32 × Int32 × Int32 × HS → Option (Int32 × HS)) (k43 : Int32 × Int32 × Int32 × HS → Option (Int32 × HS)) (x1 : Int32) (x2 : Int32) (x4 : Int32) (x5 : Int32) (z0 : Int32) (σ : HS) : Option (Int32 × HS) :=
  k43 (x2, z0, (x5 + 1), σ)
noncomputable def f9_guess_138 (k31 : Int32 × Int32 × Int32 × HS → Option (Int32 × HS)) (k43 : Int32 × Int32 × Int32 × HS → Option (Int32 × HS)) (x1 : Int32) (x2 : Int32) (x3 : Int32) (x4 : Int32) (x5 : Int32) (σ : HS) : Option (Int32 × HS) :=
  f9_guess_139 k31 k43 x1 x2 x4 x5 x3 σ
noncomputable def f9_guess_116 (k31 : Int32 × Int32 × Int32 × HS → Option (Int32 × HS)) (k43 : Int32 × Int32 × Int32 × HS → Option (Int32 × HS)) (x1 : Int32) (x3 : Int32) (x4 : Int32) (x5 : Int32) (x6 : Int32) (z0 : Int32) (z1 : Int32) (σ : HS) : Option (Int32 × HS) :=
  if (x6 : Int32) = 0 then
    f9_guess_138 k31 k43 x1 (z1 + z0) x3 x4 x5 σ
  else
    if 0 ≤ (x3 : Int32) then
      f9_guess_138 k31 k43 x1 (z1 + z0) x3 x4 x5 σ
    else
      f9_guess_139 k31 k43 x1 (z1 + z0) x4 x5 ((10 * x4) + x5) σ
noncomputable def f9_guess_97 (k31 : Int32 × Int32 × Int32 × HS → Option (Int32 × HS)) (k43 : Int32 × Int32 × Int32 × HS → Option (Int32 × HS)) (k56 : Int32 × Int32 × HS → Option (Int32 × HS)) (x1 : Int32) (x2 : Int32) (x3 : Int32) (x4 : Int32) (x5 : Int32) (x7 : Int32) (z0 : Int32) (σ : HS) : Option (Int32 × HS) :=
  k56 (z0, (x7 + 1), σ)
noncomputable def f9_guess_96 (k31 : Int32 × Int32 × Int32 × HS → Option (Int32 × HS)) (k43 : Int32 × Int32 × Int32 × HS → Option (Int32 × HS)) (k56 : Int32 × Int32 × HS → Option (Int32 × HS)) (x1 : Int32) (x2 : Int32) (x3 : Int32) (x4 : Int32) (x5 : Int32) (x7 : Int32) (σ : HS) : Option (Int32 × HS) :=
  f9_guess_97 k31 k43 k56 x1 x2 x3 x4 x5 x7 0 σ
noncomputable def f9_guess_86 (k31 : Int32 × Int32 × Int32 × HS → Option (Int32 × HS)) (k43 : Int32 × Int32 × Int32 × HS → Option (Int32 × HS)) (k56 : Int32 × Int32 × HS → Option (Int32 × HS)) (x1 : Int32) (x2 : Int32) (x3 : Int32) (x4 : Int32) (x5 : Int32) (x7 : Int32) (z0 : Int32) (z1 : Int32) (σ : HS) : Option (Int32 × HS) :=
  bd (f9_endsSo z1 z0 σ) fun r1 =>
  if (r1.1 : Int32) = 0 then
    f9_guess_96 k31 k43 k56 x1 x2 x3 x4 x5 x7 (r1.2)
  else
    f9_guess_97 k31 k43 k56 x1 x2 x3 x4 x5 x7 1 (r1.2)
noncomputable def f9_guess_56_b (k31 : Int32 × Int32 × Int32 × HS → Option (Int32 × HS)) (k43 : Int32 × Int32 × Int32 × HS → Option (Int32 × HS)) (k56 : Int32 × Int32 × HS → Option (Int32 × HS)) (x1 : Int32) (x2 : Int32) (x3 : Int32) (x4 : Int32) (x5 : Int32) (x6 : Int32) (x7 : Int32) (σ : HS) : Option (Int32 × HS) :=
  if ((σ.1 0 29) : Int32) ≤ x7 then
    if (x6 : Int32) = 0 then
      f9_guess_116 k31 k43 x1 x3 x4 x5 x6 0 x2 σ
    else
      f9_guess_116 k31 k43 x1 x3 x4 x5 x6 1 x2 σ
  else
    if (x6 : Int32) = 0 then
      f9_guess_96 k31 k43 k56 x1 x2 x3 x4 x5 x7 σ
    else
      if (x4 : Int32) ≤ x7 then
        f9_guess_86 k31 k43 k56 x1 x2 x3 x4 x5 x7 x5 x7 σ
      else
        f9_guess_86 k31 k43 k56 x1 x2 x3 x4 x5 x7 0 x7 σ
noncomputable def f9_guess_56 (k31 : Int32 × Int32 × Int32 × HS → Option (Int32 × HS)) (k43 : Int32 × Int32 × Int32 × HS → Option (Int32 × HS)) (x1 : Int32) (x2 : Int32) (x3 : Int32) (x4 : Int32) (x5 : Int32) (p : Int32 × Int32 × HS) : Option (Int32 × HS) :=
  wloop (fun k56 p => f9_guess_56_b k31 k43 k56 x1 x2 x3 x4 x5 p.1 p.2.1 p.2.2) fuelN p
noncomputable def f9_guess_43_b (k31 : Int32 × Int32 × Int32 × HS → Option (Int32 × HS)) (k43 : Int32 × Int32 × Int32 × HS → Option (Int32 × HS)) (x1 : Int32) (x2 : Int32) (x3 : Int32) (x4 : Int32) (x5 : Int32) (σ : HS) : Option (Int32 × HS) :=
  if (10 : Int32) ≤ x5 then
    k31 (x2, x3, (x4 + 1), σ)
  else
    f9_guess_56 k31 k43 x1 x2 x3 x4 x5 (1, 0, σ)
noncomputable def f9_guess_43 (k31 : Int32 × Int32 × Int32 × HS → Option (Int32 × HS)) (x1 : Int32) (x4 : Int32) (p : Int32 × Int32 × Int32 × HS) : Option (Int32 × HS) :=
  wloop (fun k43 p => f9_guess_43_b k31 k43 x1 p.1 p.2.1 x4 p.2.2.1 p.2.2.2) fuelN p
noncomputable def f9_guess_31_b (k31 : Int32 × Int32 × Int32 × HS → Option (Int32 × HS)) (x1 : Int32) (x2 : Int32) (x3 : Int32) (x4 : Int32) (σ : HS) : Option (Int32 × HS) :=
  if ((σ.1 0 29) : Int32) < x4 then
    if (x1 : Int32) = 0 then
      some (x2, σ)
    else
      some (x3, σ)
  else
    f9_guess_43 k31 x1 x4 (x2, x3, 0, σ)
noncomputable def f9_guess_31 (x1 : Int32) (p : Int32 × Int32 × Int32 × HS) : Option (Int32 × HS) :=
  wloop (fun k31 p => f9_guess_31_b k31 x1 p.1 p.2.1 p.2.2.1 p.2.2.2) fuelN p
noncomputable def f9_guess (x1 : Int32) (σ : HS) : Option (Int32 × HS) :=
  bd (f9_in ((x1 : Int32).toInt64) 0 1 σ) fun r1 =>
  if (r1.1 : Int32) = 0 then
    some ((-2), r1.2)
  else
    if (((r1.2).1 0 1) : Int32) = 0 then
      some ((-3), r1.2)
    else
      f9_guess_31 x1 (0, (-9), 0, r1.2)
set_option maxHeartbeats 4000000 in
set_option maxRecDepth 100000 in
theorem A9_guess_139 {l : Launch} (k31 : Int32 × Int32 × Int32 × HS → Option (Int32 × HS)) (k43 : Int32 × Int32 × Int32 × HS → Option (Int32 × HS)) (x1 : Int32) (x2 : Int32) (x4 : Int32) (x5 : Int32) (z0 : Int32) (hk31 : ∀ (p : Int32 × Int32 × Int32 × HS) (r : Int32 × HS), k31 p = some r → AR l RX9 cX9_guess 8 (some .int) (wsU yX9_guess cX9_guess 8 (some .int)) rm9_guess SM 31 [(0, .ref 0), (1, .int x1), (2, .int (p.1)), (3, .int (p.2.1)), (4, .int (p.2.2.1))] [] p.2.2.2 (some (.int r.1), r.2)) (hk43 : ∀ (p : Int32 × Int32 × Int32 × HS) (r : Int32 × HS), k43 p = some r → AR l RX9 cX9_guess 8 (some .int) (wsU yX9_guess cX9_guess 8 (some .int)) rm9_guess SM 43 [(0, .ref 0), (1, .int x1), (2, .int (p.1)), (3, .int (p.2.1)), (4, .int x4), (5, .int (p.2.2.1))] [] p.2.2.2 (some (.int r.1), r.2)) (σ : HS) (r : Int32 × HS) (h : f9_guess_139 k31 k43 x1 x2 x4 x5 z0 σ = some r) : AR l RX9 cX9_guess 8 (some .int) (wsU yX9_guess cX9_guess 8 (some .int)) rm9_guess SM 139 [(0, .ref 0), (1, .int x1), (2, .int x2), (4, .int x4), (5, .int x5)] [.int z0] σ (some (.int r.1), r.2) := by
  unfold f9_guess_139 at h
  refine AR.istore_n (pc := 139) (L2 := [(3, .int z0), (0, .ref 0), (1, .int x1), (2, .int x2), (4, .int x4), (5, .int x5)]) dX9_guess_139 rfl (by decide) rfl ?_
  refine AR.iinc (pc := 140) (j := 5) (v := (x5 + 1)) (L2 := [(5, .int (x5 + 1)), (3, .int z0), (0, .ref 0), (1, .int x1), (2, .int x2), (4, .int x4)]) dX9_guess_140 rfl rfl (by decide) rfl ?_
  refine AR.goto (pc := 143) (tgt := 43) dX9_guess_143 (by decide) ?_
  exact AR.pick [2, 3, 4, 1, 5, 0] rfl (hk43 (x2, z0, (x5 + 1), σ) r h)
set_option maxHeartbeats 4000000 in
set_option maxRecDepth 100000 in
theorem A9_guess_138 {l : Launch} (k31 : Int32 × Int32 × Int32 × HS → Option (Int32 × HS)) (k43 : Int32 × Int32 × Int32 × HS → Option (Int32 × HS)) (x1 : Int32) (x2 : Int32) (x3 : Int32) (x4 : Int32) (x5 : Int32) (hk31 : ∀ (p : Int32 × Int32 × Int32 × HS) (r : Int32 × HS), k31 p = some r → AR l RX9 cX9_guess 8 (some .int) (wsU yX9_guess cX9_guess 8 (some .int)) rm9_guess SM 31 [(0, .ref 0), (1, .int x1), (2, .int (p.1)), (3, .int (p.2.1)), (4, .int (p.2.2.1))] [] p.2.2.2 (some (.int r.1), r.2)) (hk43 : ∀ (p : Int32 × Int32 × Int32 × HS) (r : Int32 × HS), k43 p = some r → AR l RX9 cX9_guess 8 (some .int) (wsU yX9_guess cX9_guess 8 (some .int)) rm9_guess SM 43 [(0, .ref 0), (1, .int x1), (2, .int (p.1)), (3, .int (p.2.1)), (4, .int x4), (5, .int (p.2.2.1))] [] p.2.2.2 (some (.int r.1), r.2)) (σ : HS) (r : Int32 × HS) (h : f9_guess_138 k31 k43 x1 x2 x3 x4 x5 σ = some r) : AR l RX9 cX9_guess 8 (some .int) (wsU yX9_guess cX9_guess 8 (some .int)) rm9_guess SM 138 [(0, .ref 0), (1, .int x1), (2, .int x2), (3, .int x3), (4, .int x4), (5, .int x5)] [] σ (some (.int r.1), r.2) := by
  unfold f9_guess_138 at h
  refine AR.iload_n (pc := 138) (j := 3) dX9_guess_138 rfl rfl ?_
  exact AR.pick [0, 1, 2, 4, 5] rfl (A9_guess_139 k31 k43 x1 x2 x4 x5 x3 hk31 hk43 σ r h)
set_option maxHeartbeats 4000000 in
set_option maxRecDepth 100000 in
theorem A9_guess_116 {l : Launch} (k31 : Int32 × Int32 × Int32 × HS → Option (Int32 × HS)) (k43 : Int32 × Int32 × Int32 × HS → Option (Int32 × HS)) (x1 : Int32) (x3 : Int32) (x4 : Int32) (x5 : Int32) (x6 : Int32) (z0 : Int32) (z1 : Int32) (hk31 : ∀ (p : Int32 × Int32 × Int32 × HS) (r : Int32 × HS), k31 p = some r → AR l RX9 cX9_guess 8 (some .int) (wsU yX9_guess cX9_guess 8 (some .int)) rm9_guess SM 31 [(0, .ref 0), (1, .int x1), (2, .int (p.1)), (3, .int (p.2.1)), (4, .int (p.2.2.1))] [] p.2.2.2 (some (.int r.1), r.2)) (hk43 : ∀ (p : Int32 × Int32 × Int32 × HS) (r : Int32 × HS), k43 p = some r → AR l RX9 cX9_guess 8 (some .int) (wsU yX9_guess cX9_guess 8 (some .int)) rm9_guess SM 43 [(0, .ref 0), (1, .int x1), (2, .int (p.1)), (3, .int (p.2.1)), (4, .int x4), (5, .int (p.2.2.1))] [] p.2.2.2 (some (.int r.1), r.2)) (σ : HS) (r : Int32 × HS) (h : f9_guess_116 k31 k43 x1 x3 x4 x5 x6 z0 z1 σ = some r) : AR l RX9 cX9_guess 8 (some .int) (wsU yX9_guess cX9_guess 8 (some .int)) rm9_guess SM 116 [(0, .ref 0), (1, .int x1), (3, .int x3), (4, .int x4), (5, .int x5), (6, .int x6)] [.int z0, .int z1] σ (some (.int r.1), r.2) := by
  unfold f9_guess_116 at h
  refine AR.iadd (pc := 116) dX9_guess_116 ?_
  refine AR.istore_n (pc := 117) (L2 := [(2, .int (z1 + z0)), (0, .ref 0), (1, .int x1), (3, .int x3), (4, .int x4), (5, .int x5), (6, .int x6)]) dX9_guess_117 rfl (by decide) rfl ?_
  refine AR.iload (pc := 118) (j := 6) dX9_guess_118 rfl ?_
  refine AR.if_eq (pc := 120) (tgt := 138) dX9_guess_120 (by decide) (fun c1 => ?_) (fun c1 => ?_)
  · replace h := ite_t c1 h
    exact AR.pick [1, 2, 0, 3, 4, 5] rfl (A9_guess_138 k31 k43 x1 (z1 + z0) x3 x4 x5 hk31 hk43 σ r h)
  · replace h := ite_f c1 h
    refine AR.iload_n (pc := 123) (j := 3) dX9_guess_123 rfl rfl ?_
    refine AR.if_ge (pc := 124) (tgt := 138) dX9_guess_124 (by decide) (fun c2 => ?_) (fun c2 => ?_)
    · replace h := ite_t c2 h
      exact AR.pick [1, 2, 0, 3, 4, 5] rfl (A9_guess_138 k31 k43 x1 (z1 + z0) x3 x4 x5 hk31 hk43 σ r h)
    · replace h := ite_f c2 h
      refine AR.bipush (pc := 127) (v := 10) dX9_guess_127 (by decide) ?_
      refine AR.iload (pc := 129) (j := 4) dX9_guess_129 rfl ?_
      refine AR.imul (pc := 131) dX9_guess_131 ?_
      refine AR.iload (pc := 132) (j := 5) dX9_guess_132 rfl ?_
      refine AR.iadd (pc := 134) dX9_guess_134 ?_
      refine AR.goto (pc := 135) (tgt := 139) dX9_guess_135 (by decide) ?_
      exact AR.pick [1, 2, 0, 4, 5] rfl (A9_guess_139 k31 k43 x1 (z1 + z0) x4 x5 ((10 * x4) + x5) hk31 hk43 σ r h)
set_option maxHeartbeats 4000000 in
set_option maxRecDepth 100000 in
theorem A9_guess_97 {l : Launch} (k31 : Int32 × Int32 × Int32 × HS → Option (Int32 × HS)) (k43 : Int32 × Int32 × Int32 × HS → Option (Int32 × HS)) (k56 : Int32 × Int32 × HS → Option (Int32 × HS)) (x1 : Int32) (x2 : Int32) (x3 : Int32) (x4 : Int32) (x5 : Int32) (x7 : Int32) (z0 : Int32) (hk31 : ∀ (p : Int32 × Int32 × Int32 × HS) (r : Int32 × HS), k31 p = some r → AR l RX9 cX9_guess 8 (some .int) (wsU yX9_guess cX9_guess 8 (some .int)) rm9_guess SM 31 [(0, .ref 0), (1, .int x1), (2, .int (p.1)), (3, .int (p.2.1)), (4, .int (p.2.2.1))] [] p.2.2.2 (some (.int r.1), r.2)) (hk43 : ∀ (p : Int32 × Int32 × Int32 × HS) (r : Int32 × HS), k43 p = some r → AR l RX9 cX9_guess 8 (some .int) (wsU yX9_guess cX9_guess 8 (some .int)) rm9_guess SM 43 [(0, .ref 0), (1, .int x1), (2, .int (p.1)), (3, .int (p.2.1)), (4, .int x4), (5, .int (p.2.2.1))] [] p.2.2.2 (some (.int r.1), r.2)) (hk56 : ∀ (p : Int32 × Int32 × HS) (r : Int32 × HS), k56 p = some r → AR l RX9 cX9_guess 8 (some .int) (wsU yX9_guess cX9_guess 8 (some .int)) rm9_guess SM 56 [(0, .ref 0), (1, .int x1), (2, .int x2), (3, .int x3), (4, .int x4), (5, .int x5), (6, .int (p.1)), (7, .int (p.2.1))] [] p.2.2 (some (.int r.1), r.2)) (σ : HS) (r : Int32 × HS) (h : f9_guess_97 k31 k43 k56 x1 x2 x3 x4 x5 x7 z0 σ = some r) : AR l RX9 cX9_guess 8 (some .int) (wsU yX9_guess cX9_guess 8 (some .int)) rm9_guess SM 97 [(0, .ref 0), (1, .int x1), (2, .int x2), (3, .int x3), (4, .int x4), (5, .int x5), (7, .int x7)] [.int z0] σ (some (.int r.1), r.2) := by
  unfold f9_guess_97 at h
  refine AR.istore (pc := 97) (L2 := [(6, .int z0), (0, .ref 0), (1, .int x1), (2, .int x2), (3, .int x3), (4, .int x4), (5, .int x5), (7, .int x7)]) dX9_guess_97 (by decide) rfl ?_
  refine AR.iinc (pc := 99) (j := 7) (v := (x7 + 1)) (L2 := [(7, .int (x7 + 1)), (6, .int z0), (0, .ref 0), (1, .int x1), (2, .int x2), (3, .int x3), (4, .int x4), (5, .int x5)]) dX9_guess_99 rfl rfl (by decide) rfl ?_
  refine AR.goto (pc := 102) (tgt := 56) dX9_guess_102 (by decide) ?_
  exact AR.pick [2, 3, 4, 5, 6, 7, 1, 0] rfl (hk56 (z0, (x7 + 1), σ) r h)
set_option maxHeartbeats 4000000 in
set_option maxRecDepth 100000 in
theorem A9_guess_96 {l : Launch} (k31 : Int32 × Int32 × Int32 × HS → Option (Int32 × HS)) (k43 : Int32 × Int32 × Int32 × HS → Option (Int32 × HS)) (k56 : Int32 × Int32 × HS → Option (Int32 × HS)) (x1 : Int32) (x2 : Int32) (x3 : Int32) (x4 : Int32) (x5 : Int32) (x7 : Int32) (hk31 : ∀ (p : Int32 × Int32 × Int32 × HS) (r : Int32 × HS), k31 p = some r → AR l RX9 cX9_guess 8 (some .int) (wsU yX9_guess cX9_guess 8 (some .int)) rm9_guess SM 31 [(0, .ref 0), (1, .int x1), (2, .int (p.1)), (3, .int (p.2.1)), (4, .int (p.2.2.1))] [] p.2.2.2 (some (.int r.1), r.2)) (hk43 : ∀ (p : Int32 × Int32 × Int32 × HS) (r : Int32 × HS), k43 p = some r → AR l RX9 cX9_guess 8 (some .int) (wsU yX9_guess cX9_guess 8 (some .int)) rm9_guess SM 43 [(0, .ref 0), (1, .int x1), (2, .int (p.1)), (3, .int (p.2.1)), (4, .int x4), (5, .int (p.2.2.1))] [] p.2.2.2 (some (.int r.1), r.2)) (hk56 : ∀ (p : Int32 × Int32 × HS) (r : Int32 × HS), k56 p = some r → AR l RX9 cX9_guess 8 (some .int) (wsU yX9_guess cX9_guess 8 (some .int)) rm9_guess SM 56 [(0, .ref 0), (1, .int x1), (2, .int x2), (3, .int x3), (4, .int x4), (5, .int x5), (6, .int (p.1)), (7, .int (p.2.1))] [] p.2.2 (some (.int r.1), r.2)) (σ : HS) (r : Int32 × HS) (h : f9_guess_96 k31 k43 k56 x1 x2 x3 x4 x5 x7 σ = some r) : AR l RX9 cX9_guess 8 (some .int) (wsU yX9_guess cX9_guess 8 (some .int)) rm9_guess SM 96 [(0, .ref 0), (1, .int x1), (2, .int x2), (3, .int x3), (4, .int x4), (5, .int x5), (7, .int x7)] [] σ (some (.int r.1), r.2) := by
  unfold f9_guess_96 at h
  refine AR.iconst (pc := 96) (v := 0) dX9_guess_96 (by decide) ?_
  exact AR.pick [0, 1, 2, 3, 4, 5, 6] rfl (A9_guess_97 k31 k43 k56 x1 x2 x3 x4 x5 x7 0 hk31 hk43 hk56 σ r h)
set_option maxHeartbeats 4000000 in
set_option maxRecDepth 100000 in
theorem A9_guess_86 {l : Launch} (k31 : Int32 × Int32 × Int32 × HS → Option (Int32 × HS)) (k43 : Int32 × Int32 × Int32 × HS → Option (Int32 × HS)) (k56 : Int32 × Int32 × HS → Option (Int32 × HS)) (x1 : Int32) (x2 : Int32) (x3 : Int32) (x4 : Int32) (x5 : Int32) (x7 : Int32) (z0 : Int32) (z1 : Int32) (hk31 : ∀ (p : Int32 × Int32 × Int32 × HS) (r : Int32 × HS), k31 p = some r → AR l RX9 cX9_guess 8 (some .int) (wsU yX9_guess cX9_guess 8 (some .int)) rm9_guess SM 31 [(0, .ref 0), (1, .int x1), (2, .int (p.1)), (3, .int (p.2.1)), (4, .int (p.2.2.1))] [] p.2.2.2 (some (.int r.1), r.2)) (hk43 : ∀ (p : Int32 × Int32 × Int32 × HS) (r : Int32 × HS), k43 p = some r → AR l RX9 cX9_guess 8 (some .int) (wsU yX9_guess cX9_guess 8 (some .int)) rm9_guess SM 43 [(0, .ref 0), (1, .int x1), (2, .int (p.1)), (3, .int (p.2.1)), (4, .int x4), (5, .int (p.2.2.1))] [] p.2.2.2 (some (.int r.1), r.2)) (hk56 : ∀ (p : Int32 × Int32 × HS) (r : Int32 × HS), k56 p = some r → AR l RX9 cX9_guess 8 (some .int) (wsU yX9_guess cX9_guess 8 (some .int)) rm9_guess SM 56 [(0, .ref 0), (1, .int x1), (2, .int x2), (3, .int x3), (4, .int x4), (5, .int x5), (6, .int (p.1)), (7, .int (p.2.1))] [] p.2.2 (some (.int r.1), r.2)) (σ : HS) (r : Int32 × HS) (h : f9_guess_86 k31 k43 k56 x1 x2 x3 x4 x5 x7 z0 z1 σ = some r) : AR l RX9 cX9_guess 8 (some .int) (wsU yX9_guess cX9_guess 8 (some .int)) rm9_guess SM 86 [(0, .ref 0), (1, .int x1), (2, .int x2), (3, .int x3), (4, .int x4), (5, .int x5), (7, .int x7)] [.int z0, .int z1, .ref 0] σ (some (.int r.1), r.2) := by
  unfold f9_guess_86 at h
  obtain ⟨r1, h1, h⟩ := bd_some h
  refine AR.callV (pc := 86) (As := [.int z1, .int z0]) (st := []) (ci := 9) dX9_guess_86 ⟨cd_X9_endsSo, im_X9_endsSo, se_X9_endsSo, ini_X9⟩ ml_X9_279 (A9_endsSo z1 z0 σ _ h1) ⟨rfl, pd_X9_endsSo⟩ ⟨Nat.le_of_ble_eq_true rfl, Nat.le_of_ble_eq_true rfl⟩ ⟨rfl, rfl⟩ rfl rfl rfl (Nat.le_of_ble_eq_true rfl) ?_
  refine AR.if_eq (pc := 89) (tgt := 96) dX9_guess_89 (by decide) (fun c2 => ?_) (fun c2 => ?_)
  · replace h := ite_t c2 h
    exact AR.pick [0, 1, 2, 3, 4, 5, 6] rfl (A9_guess_96 k31 k43 k56 x1 x2 x3 x4 x5 x7 hk31 hk43 hk56 (r1.2) r h)
  · replace h := ite_f c2 h
    refine AR.iconst (pc := 92) (v := 1) dX9_guess_92 (by decide) ?_
    refine AR.goto (pc := 93) (tgt := 97) dX9_guess_93 (by decide) ?_
    exact AR.pick [0, 1, 2, 3, 4, 5, 6] rfl (A9_guess_97 k31 k43 k56 x1 x2 x3 x4 x5 x7 1 hk31 hk43 hk56 (r1.2) r h)
set_option maxHeartbeats 4000000 in
set_option maxRecDepth 100000 in
theorem A9_guess_56_b {l : Launch} (k31 : Int32 × Int32 × Int32 × HS → Option (Int32 × HS)) (k43 : Int32 × Int32 × Int32 × HS → Option (Int32 × HS)) (k56 : Int32 × Int32 × HS → Option (Int32 × HS)) (x1 : Int32) (x2 : Int32) (x3 : Int32) (x4 : Int32) (x5 : Int32) (x6 : Int32) (x7 : Int32) (hk31 : ∀ (p : Int32 × Int32 × Int32 × HS) (r : Int32 × HS), k31 p = some r → AR l RX9 cX9_guess 8 (some .int) (wsU yX9_guess cX9_guess 8 (some .int)) rm9_guess SM 31 [(0, .ref 0), (1, .int x1), (2, .int (p.1)), (3, .int (p.2.1)), (4, .int (p.2.2.1))] [] p.2.2.2 (some (.int r.1), r.2)) (hk43 : ∀ (p : Int32 × Int32 × Int32 × HS) (r : Int32 × HS), k43 p = some r → AR l RX9 cX9_guess 8 (some .int) (wsU yX9_guess cX9_guess 8 (some .int)) rm9_guess SM 43 [(0, .ref 0), (1, .int x1), (2, .int (p.1)), (3, .int (p.2.1)), (4, .int x4), (5, .int (p.2.2.1))] [] p.2.2.2 (some (.int r.1), r.2)) (hk56 : ∀ (p : Int32 × Int32 × HS) (r : Int32 × HS), k56 p = some r → AR l RX9 cX9_guess 8 (some .int) (wsU yX9_guess cX9_guess 8 (some .int)) rm9_guess SM 56 [(0, .ref 0), (1, .int x1), (2, .int x2), (3, .int x3), (4, .int x4), (5, .int x5), (6, .int (p.1)), (7, .int (p.2.1))] [] p.2.2 (some (.int r.1), r.2)) (σ : HS) (r : Int32 × HS) (h : f9_guess_56_b k31 k43 k56 x1 x2 x3 x4 x5 x6 x7 σ = some r) : AR l RX9 cX9_guess 8 (some .int) (wsU yX9_guess cX9_guess 8 (some .int)) rm9_guess SM 56 [(0, .ref 0), (1, .int x1), (2, .int x2), (3, .int x3), (4, .int x4), (5, .int x5), (6, .int x6), (7, .int x7)] [] σ (some (.int r.1), r.2) := by
  unfold f9_guess_56_b at h
  refine AR.iload (pc := 56) (j := 7) dX9_guess_56 rfl ?_
  refine AR.aload_n (pc := 58) (j := 0) dX9_guess_58 rfl rfl ?_
  refine AR.getf (pc := 59) (ci := 9) (j := 29) (d := 0) (v := .int (σ.1 0 29)) (T := TX9) dX9_guess_59 rfl rfl rfl (by decide) (fun w hw => wsU_in (uw_X9 w hw)) (wsU_in fl_X9_176) rfl ?_
  refine AR.icmp_ge (pc := 62) (tgt := 105) dX9_guess_62 (by decide) (fun c1 => ?_) (fun c1 => ?_)
  · replace h := ite_t c1 h
    refine AR.iload_n (pc := 105) (j := 2) dX9_guess_105 rfl rfl ?_
    refine AR.iload (pc := 106) (j := 6) dX9_guess_106 rfl ?_
    refine AR.if_eq (pc := 108) (tgt := 115) dX9_guess_108 (by decide) (fun c2 => ?_) (fun c2 => ?_)
    · replace h := ite_t c2 h
      refine AR.iconst (pc := 115) (v := 0) dX9_guess_115 (by decide) ?_
      exact AR.pick [0, 1, 3, 4, 5, 6] rfl (A9_guess_116 k31 k43 x1 x3 x4 x5 x6 0 x2 hk31 hk43 σ r h)
    · replace h := ite_f c2 h
      refine AR.iconst (pc := 111) (v := 1) dX9_guess_111 (by decide) ?_
      refine AR.goto (pc := 112) (tgt := 116) dX9_guess_112 (by decide) ?_
      exact AR.pick [0, 1, 3, 4, 5, 6] rfl (A9_guess_116 k31 k43 x1 x3 x4 x5 x6 1 x2 hk31 hk43 σ r h)
  · replace h := ite_f c1 h
    refine AR.iload (pc := 65) (j := 6) dX9_guess_65 rfl ?_
    refine AR.if_eq (pc := 67) (tgt := 96) dX9_guess_67 (by decide) (fun c3 => ?_) (fun c3 => ?_)
    · replace h := ite_t c3 h
      exact AR.pick [0, 1, 2, 3, 4, 5, 7] rfl (A9_guess_96 k31 k43 k56 x1 x2 x3 x4 x5 x7 hk31 hk43 hk56 σ r h)
    · replace h := ite_f c3 h
      refine AR.aload_n (pc := 70) (j := 0) dX9_guess_70 rfl rfl ?_
      refine AR.iload (pc := 71) (j := 7) dX9_guess_71 rfl ?_
      refine AR.iload (pc := 73) (j := 7) dX9_guess_73 rfl ?_
      refine AR.iload (pc := 75) (j := 4) dX9_guess_75 rfl ?_
      refine AR.icmp_ge (pc := 77) (tgt := 84) dX9_guess_77 (by decide) (fun c4 => ?_) (fun c4 => ?_)
      · replace h := ite_t c4 h
        refine AR.iload (pc := 84) (j := 5) dX9_guess_84 rfl ?_
        exact AR.pick [0, 1, 2, 3, 4, 5, 7] rfl (A9_guess_86 k31 k43 k56 x1 x2 x3 x4 x5 x7 x5 x7 hk31 hk43 hk56 σ r h)
      · replace h := ite_f c4 h
        refine AR.iconst (pc := 80) (v := 0) dX9_guess_80 (by decide) ?_
        refine AR.goto (pc := 81) (tgt := 86) dX9_guess_81 (by decide) ?_
        exact AR.pick [0, 1, 2, 3, 4, 5, 7] rfl (A9_guess_86 k31 k43 k56 x1 x2 x3 x4 x5 x7 0 x7 hk31 hk43 hk56 σ r h)
theorem A9_guess_56 {l : Launch} (k31 : Int32 × Int32 × Int32 × HS → Option (Int32 × HS)) (k43 : Int32 × Int32 × Int32 × HS → Option (Int32 × HS)) (x1 : Int32) (x2 : Int32) (x3 : Int32) (x4 : Int32) (x5 : Int32) (hk31 : ∀ (p : Int32 × Int32 × Int32 × HS) (r : Int32 × HS), k31 p = some r → AR l RX9 cX9_guess 8 (some .int) (wsU yX9_guess cX9_guess 8 (some .int)) rm9_guess SM 31 [(0, .ref 0), (1, .int x1), (2, .int (p.1)), (3, .int (p.2.1)), (4, .int (p.2.2.1))] [] p.2.2.2 (some (.int r.1), r.2)) (hk43 : ∀ (p : Int32 × Int32 × Int32 × HS) (r : Int32 × HS), k43 p = some r → AR l RX9 cX9_guess 8 (some .int) (wsU yX9_guess cX9_guess 8 (some .int)) rm9_guess SM 43 [(0, .ref 0), (1, .int x1), (2, .int (p.1)), (3, .int (p.2.1)), (4, .int x4), (5, .int (p.2.2.1))] [] p.2.2.2 (some (.int r.1), r.2)) (p : Int32 × Int32 × HS) (r : Int32 × HS) (h : f9_guess_56 k31 k43 x1 x2 x3 x4 x5 p = some r) : AR l RX9 cX9_guess 8 (some .int) (wsU yX9_guess cX9_guess 8 (some .int)) rm9_guess SM 56 [(0, .ref 0), (1, .int x1), (2, .int x2), (3, .int x3), (4, .int x4), (5, .int x5), (6, .int (p.1)), (7, .int (p.2.1))] [] p.2.2 (some (.int r.1), r.2) := by
  unfold f9_guess_56 at h
  exact wloop_run (body := fun k56 p => f9_guess_56_b k31 k43 k56 x1 x2 x3 x4 x5 p.1 p.2.1 p.2.2) (Q := fun p r => AR l RX9 cX9_guess 8 (some .int) (wsU yX9_guess cX9_guess 8 (some .int)) rm9_guess SM 56 [(0, .ref 0), (1, .int x1), (2, .int x2), (3, .int x3), (4, .int x4), (5, .int x5), (6, .int (p.1)), (7, .int (p.2.1))] [] p.2.2 (some (.int r.1), r.2)) (fun k56 hk56 p r h => A9_guess_56_b k31 k43 k56 x1 x2 x3 x4 x5 p.1 p.2.1 hk31 hk43 hk56 p.2.2 r h) fuelN p r h
set_option maxHeartbeats 4000000 in
set_option maxRecDepth 100000 in
theorem A9_guess_43_b {l : Launch} (k31 : Int32 × Int32 × Int32 × HS → Option (Int32 × HS)) (k43 : Int32 × Int32 × Int32 × HS → Option (Int32 × HS)) (x1 : Int32) (x2 : Int32) (x3 : Int32) (x4 : Int32) (x5 : Int32) (hk31 : ∀ (p : Int32 × Int32 × Int32 × HS) (r : Int32 × HS), k31 p = some r → AR l RX9 cX9_guess 8 (some .int) (wsU yX9_guess cX9_guess 8 (some .int)) rm9_guess SM 31 [(0, .ref 0), (1, .int x1), (2, .int (p.1)), (3, .int (p.2.1)), (4, .int (p.2.2.1))] [] p.2.2.2 (some (.int r.1), r.2)) (hk43 : ∀ (p : Int32 × Int32 × Int32 × HS) (r : Int32 × HS), k43 p = some r → AR l RX9 cX9_guess 8 (some .int) (wsU yX9_guess cX9_guess 8 (some .int)) rm9_guess SM 43 [(0, .ref 0), (1, .int x1), (2, .int (p.1)), (3, .int (p.2.1)), (4, .int x4), (5, .int (p.2.2.1))] [] p.2.2.2 (some (.int r.1), r.2)) (σ : HS) (r : Int32 × HS) (h : f9_guess_43_b k31 k43 x1 x2 x3 x4 x5 σ = some r) : AR l RX9 cX9_guess 8 (some .int) (wsU yX9_guess cX9_guess 8 (some .int)) rm9_guess SM 43 [(0, .ref 0), (1, .int x1), (2, .int x2), (3, .int x3), (4, .int x4), (5, .int x5)] [] σ (some (.int r.1), r.2) := by
  unfold f9_guess_43_b at h
  refine AR.iload (pc := 43) (j := 5) dX9_guess_43 rfl ?_
  refine AR.bipush (pc := 45) (v := 10) dX9_guess_45 (by decide) ?_
  refine AR.icmp_ge (pc := 47) (tgt := 146) dX9_guess_47 (by decide) (fun c1 => ?_) (fun c1 => ?_)
  · replace h := ite_t c1 h
    refine AR.iinc (pc := 146) (j := 4) (v := (x4 + 1)) (L2 := [(4, .int (x4 + 1)), (0, .ref 0), (1, .int x1), (2, .int x2), (3, .int x3), (5, .int x5)]) dX9_guess_146 rfl rfl (by decide) rfl ?_
    refine AR.goto (pc := 149) (tgt := 31) dX9_guess_149 (by decide) ?_
    exact AR.pick [1, 2, 3, 4, 0] rfl (hk31 (x2, x3, (x4 + 1), σ) r h)
  · replace h := ite_f c1 h
    refine AR.iconst (pc := 50) (v := 1) dX9_guess_50 (by decide) ?_
    refine AR.istore (pc := 51) (L2 := [(6, .int 1), (0, .ref 0), (1, .int x1), (2, .int x2), (3, .int x3), (4, .int x4), (5, .int x5)]) dX9_guess_51 (by decide) rfl ?_
    refine AR.iconst (pc := 53) (v := 0) dX9_guess_53 (by decide) ?_
    refine AR.istore (pc := 54) (L2 := [(7, .int 0), (6, .int 1), (0, .ref 0), (1, .int x1), (2, .int x2), (3, .int x3), (4, .int x4), (5, .int x5)]) dX9_guess_54 (by decide) rfl ?_
    exact AR.pick [2, 3, 4, 5, 6, 7, 1, 0] rfl (A9_guess_56 k31 k43 x1 x2 x3 x4 x5 hk31 hk43 (1, 0, σ) r h)
theorem A9_guess_43 {l : Launch} (k31 : Int32 × Int32 × Int32 × HS → Option (Int32 × HS)) (x1 : Int32) (x4 : Int32) (hk31 : ∀ (p : Int32 × Int32 × Int32 × HS) (r : Int32 × HS), k31 p = some r → AR l RX9 cX9_guess 8 (some .int) (wsU yX9_guess cX9_guess 8 (some .int)) rm9_guess SM 31 [(0, .ref 0), (1, .int x1), (2, .int (p.1)), (3, .int (p.2.1)), (4, .int (p.2.2.1))] [] p.2.2.2 (some (.int r.1), r.2)) (p : Int32 × Int32 × Int32 × HS) (r : Int32 × HS) (h : f9_guess_43 k31 x1 x4 p = some r) : AR l RX9 cX9_guess 8 (some .int) (wsU yX9_guess cX9_guess 8 (some .int)) rm9_guess SM 43 [(0, .ref 0), (1, .int x1), (2, .int (p.1)), (3, .int (p.2.1)), (4, .int x4), (5, .int (p.2.2.1))] [] p.2.2.2 (some (.int r.1), r.2) := by
  unfold f9_guess_43 at h
  exact wloop_run (body := fun k43 p => f9_guess_43_b k31 k43 x1 p.1 p.2.1 x4 p.2.2.1 p.2.2.2) (Q := fun p r => AR l RX9 cX9_guess 8 (some .int) (wsU yX9_guess cX9_guess 8 (some .int)) rm9_guess SM 43 [(0, .ref 0), (1, .int x1), (2, .int (p.1)), (3, .int (p.2.1)), (4, .int x4), (5, .int (p.2.2.1))] [] p.2.2.2 (some (.int r.1), r.2)) (fun k43 hk43 p r h => A9_guess_43_b k31 k43 x1 p.1 p.2.1 x4 p.2.2.1 hk31 hk43 p.2.2.2 r h) fuelN p r h
set_option maxHeartbeats 4000000 in
set_option maxRecDepth 100000 in
theorem A9_guess_31_b {l : Launch} (k31 : Int32 × Int32 × Int32 × HS → Option (Int32 × HS)) (x1 : Int32) (x2 : Int32) (x3 : Int32) (x4 : Int32) (hk31 : ∀ (p : Int32 × Int32 × Int32 × HS) (r : Int32 × HS), k31 p = some r → AR l RX9 cX9_guess 8 (some .int) (wsU yX9_guess cX9_guess 8 (some .int)) rm9_guess SM 31 [(0, .ref 0), (1, .int x1), (2, .int (p.1)), (3, .int (p.2.1)), (4, .int (p.2.2.1))] [] p.2.2.2 (some (.int r.1), r.2)) (σ : HS) (r : Int32 × HS) (h : f9_guess_31_b k31 x1 x2 x3 x4 σ = some r) : AR l RX9 cX9_guess 8 (some .int) (wsU yX9_guess cX9_guess 8 (some .int)) rm9_guess SM 31 [(0, .ref 0), (1, .int x1), (2, .int x2), (3, .int x3), (4, .int x4)] [] σ (some (.int r.1), r.2) := by
  unfold f9_guess_31_b at h
  refine AR.iload (pc := 31) (j := 4) dX9_guess_31 rfl ?_
  refine AR.aload_n (pc := 33) (j := 0) dX9_guess_33 rfl rfl ?_
  refine AR.getf (pc := 34) (ci := 9) (j := 29) (d := 0) (v := .int (σ.1 0 29)) (T := TX9) dX9_guess_34 rfl rfl rfl (by decide) (fun w hw => wsU_in (uw_X9 w hw)) (wsU_in fl_X9_176) rfl ?_
  refine AR.icmp_gt (pc := 37) (tgt := 152) dX9_guess_37 (by decide) (fun c1 => ?_) (fun c1 => ?_)
  · replace h := ite_t c1 h
    refine AR.iload_n (pc := 152) (j := 1) dX9_guess_152 rfl rfl ?_
    refine AR.if_ne (pc := 153) (tgt := 160) dX9_guess_153 (by decide) (fun c2 => ?_) (fun c2 => ?_)
    · replace h := ite_f c2 h
      refine AR.iload_n (pc := 160) (j := 3) dX9_guess_160 rfl rfl ?_
      exact AR.iret (pc := 161) rfl dX9_guess_161 (hrI (Option.some.inj h))
    · replace h := ite_t c2 h
      refine AR.iload_n (pc := 156) (j := 2) dX9_guess_156 rfl rfl ?_
      refine AR.goto (pc := 157) (tgt := 161) dX9_guess_157 (by decide) ?_
      exact AR.iret (pc := 161) rfl dX9_guess_161 (hrI (Option.some.inj h))
  · replace h := ite_f c1 h
    refine AR.iconst (pc := 40) (v := 0) dX9_guess_40 (by decide) ?_
    refine AR.istore (pc := 41) (L2 := [(5, .int 0), (0, .ref 0), (1, .int x1), (2, .int x2), (3, .int x3), (4, .int x4)]) dX9_guess_41 (by decide) rfl ?_
    exact AR.pick [1, 2, 3, 4, 5, 0] rfl (A9_guess_43 k31 x1 x4 hk31 (x2, x3, 0, σ) r h)
theorem A9_guess_31 {l : Launch} (x1 : Int32) (p : Int32 × Int32 × Int32 × HS) (r : Int32 × HS) (h : f9_guess_31 x1 p = some r) : AR l RX9 cX9_guess 8 (some .int) (wsU yX9_guess cX9_guess 8 (some .int)) rm9_guess SM 31 [(0, .ref 0), (1, .int x1), (2, .int (p.1)), (3, .int (p.2.1)), (4, .int (p.2.2.1))] [] p.2.2.2 (some (.int r.1), r.2) := by
  unfold f9_guess_31 at h
  exact wloop_run (body := fun k31 p => f9_guess_31_b k31 x1 p.1 p.2.1 p.2.2.1 p.2.2.2) (Q := fun p r => AR l RX9 cX9_guess 8 (some .int) (wsU yX9_guess cX9_guess 8 (some .int)) rm9_guess SM 31 [(0, .ref 0), (1, .int x1), (2, .int (p.1)), (3, .int (p.2.1)), (4, .int (p.2.2.1))] [] p.2.2.2 (some (.int r.1), r.2)) (fun k31 hk31 p r h => A9_guess_31_b k31 x1 p.1 p.2.1 p.2.2.1 hk31 p.2.2.2 r h) fuelN p r h
set_option maxHeartbeats 4000000 in
set_option maxRecDepth 100000 in
theorem A9_guess {l : Launch} (x1 : Int32) (σ : HS) (r : Int32 × HS) (h : f9_guess x1 σ = some r) : MA l yX9_guess (wsU yX9_guess cX9_guess 8 (some .int)) rm9_guess SM [.ref 0, .int x1] σ (some (.int r.1), r.2) := by
  refine MA.of (L := [(0, .ref 0), (1, .int x1)]) pn_X9_guess rfl (fun _ => Nat.le_of_ble_eq_true rfl) (fun _ => rfl) ?_
  unfold f9_guess at h
  refine AR.iload_n (pc := 0) (j := 1) dX9_guess_0 rfl rfl ?_
  refine AR.i2l (pc := 1) dX9_guess_1 ?_
  refine AR.lconst (pc := 2) (v := 0) dX9_guess_2 (by decide) ?_
  refine AR.lconst (pc := 3) (v := 1) dX9_guess_3 (by decide) ?_
  obtain ⟨r1, h1, h⟩ := bd_some h
  refine AR.callS (pc := 4) (As := [.long ((x1 : Int32).toInt64), .long 0, .long 1]) (st := []) dX9_guess_4 ⟨cd_X9_in, sm_X9_in, ini_X9⟩ ml_X9_102 (A9_in ((x1 : Int32).toInt64) 0 1 σ _ h1) ⟨rfl, pd_X9_in⟩ ⟨Nat.le_of_ble_eq_true rfl, Nat.le_of_ble_eq_true rfl⟩ ⟨rfl, rfl⟩ rfl (Nat.le_of_ble_eq_true rfl) ?_
  refine AR.if_ne (pc := 7) (tgt := 13) dX9_guess_7 (by decide) (fun c2 => ?_) (fun c2 => ?_)
  · replace h := ite_f c2 h
    refine AR.aload_n (pc := 13) (j := 0) dX9_guess_13 rfl rfl ?_
    refine AR.getf (pc := 14) (ci := 9) (j := 1) (d := 0) (v := .int ((r1.2).1 0 1)) (T := TX9) dX9_guess_14 rfl rfl rfl (by decide) (fun w hw => wsU_in (uw_X9 w hw)) (wsU_in fl_X9_113) rfl ?_
    refine AR.if_ne (pc := 17) (tgt := 23) dX9_guess_17 (by decide) (fun c3 => ?_) (fun c3 => ?_)
    · replace h := ite_f c3 h
      refine AR.iconst (pc := 23) (v := 0) dX9_guess_23 (by decide) ?_
      refine AR.istore_n (pc := 24) (L2 := [(2, .int 0), (0, .ref 0), (1, .int x1)]) dX9_guess_24 rfl (by decide) rfl ?_
      refine AR.bipush (pc := 25) (v := (-9)) dX9_guess_25 (by decide) ?_
      refine AR.istore_n (pc := 27) (L2 := [(3, .int (-9)), (2, .int 0), (0, .ref 0), (1, .int x1)]) dX9_guess_27 rfl (by decide) rfl ?_
      refine AR.iconst (pc := 28) (v := 0) dX9_guess_28 (by decide) ?_
      refine AR.istore (pc := 29) (L2 := [(4, .int 0), (3, .int (-9)), (2, .int 0), (0, .ref 0), (1, .int x1)]) dX9_guess_29 (by decide) rfl ?_
      exact AR.pick [3, 4, 2, 1, 0] rfl (A9_guess_31 x1 (0, (-9), 0, r1.2) r h)
    · replace h := ite_t c3 h
      refine AR.bipush (pc := 20) (v := (-3)) dX9_guess_20 (by decide) ?_
      exact AR.iret (pc := 22) rfl dX9_guess_22 (hrI (Option.some.inj h))
  · replace h := ite_t c2 h
    refine AR.bipush (pc := 10) (v := (-2)) dX9_guess_10 (by decide) ?_
    exact AR.iret (pc := 12) rfl dX9_guess_12 (hrI (Option.some.inj h))
noncomputable def f9_worthBy (x1 : Int32) (σ : HS) : Option (Int32 × HS) :=
  bd (f9_goFree (uI σ 0 4 x1)) fun r1 =>
  bd (f9_worthToAll (uI r1 0 4 (σ.1 0 4))) fun r2 =>
  some (r2.1, r2.2)
set_option maxHeartbeats 4000000 in
set_option maxRecDepth 100000 in
theorem A9_worthBy {l : Launch} (x1 : Int32) (σ : HS) (r : Int32 × HS) (h : f9_worthBy x1 σ = some r) : MA l yX9_worthBy (wsU yX9_worthBy cX9_worthBy 3 (some .int)) rm9_worthBy SM [.ref 0, .int x1] σ (some (.int r.1), r.2) := by
  refine MA.of (L := [(0, .ref 0), (1, .int x1)]) pn_X9_worthBy rfl (fun _ => Nat.le_of_ble_eq_true rfl) (fun _ => rfl) ?_
  unfold f9_worthBy at h
  refine AR.aload_n (pc := 0) (j := 0) dX9_worthBy_0 rfl rfl ?_
  refine AR.getf (pc := 1) (ci := 9) (j := 4) (d := 0) (v := .int (σ.1 0 4)) (T := TX9) dX9_worthBy_1 rfl rfl rfl (by decide) (fun w hw => wsU_in (uw_X9 w hw)) (wsU_in fl_X9_173) rfl ?_
  refine AR.istore_n (pc := 4) (L2 := [(2, .int (σ.1 0 4)), (0, .ref 0), (1, .int x1)]) dX9_worthBy_4 rfl (by decide) rfl ?_
  refine AR.aload_n (pc := 5) (j := 1) dX9_worthBy_5 rfl rfl ?_
  refine AR.iload_n (pc := 6) (j := 2) dX9_worthBy_6 rfl rfl ?_
  refine AR.putI (pc := 7) (ci := 9) (j := 4) (T := TX9) (ty0 := tyX9) (ty := .int) dX9_worthBy_7 rfl rfl rfl (by decide) (fun w hw => wsU_in (uw_X9 w hw)) tyX9_ok nmX9 (wsU_in fl_X9_173) rfl (by decide +kernel) rfl rfl ?_
  refine AR.aload_n (pc := 10) (j := 1) dX9_worthBy_10 rfl rfl ?_
  obtain ⟨r1, h1, h⟩ := bd_some h
  refine AR.callV (pc := 11) (As := []) (st := []) (ci := 9) dX9_worthBy_11 ⟨cd_X9_goFree, im_X9_goFree, se_X9_goFree, ini_X9⟩ ml_X9_254 (A9_goFree (uI σ 0 4 x1) _ h1) ⟨rfl, pd_X9_goFree⟩ ⟨Nat.le_of_ble_eq_true rfl, Nat.le_of_ble_eq_true rfl⟩ ⟨rfl, rfl⟩ rfl rfl rfl (Nat.le_of_ble_eq_true rfl) ?_
  refine AR.aload_n (pc := 14) (j := 1) dX9_worthBy_14 rfl rfl ?_
  refine AR.iload_n (pc := 15) (j := 0) dX9_worthBy_15 rfl rfl ?_
  refine AR.putI (pc := 16) (ci := 9) (j := 4) (T := TX9) (ty0 := tyX9) (ty := .int) dX9_worthBy_16 rfl rfl rfl (by decide) (fun w hw => wsU_in (uw_X9 w hw)) tyX9_ok nmX9 (wsU_in fl_X9_173) rfl (by decide +kernel) rfl rfl ?_
  refine AR.aload_n (pc := 19) (j := 1) dX9_worthBy_19 rfl rfl ?_
  obtain ⟨r2, h2, h⟩ := bd_some h
  refine AR.callV (pc := 20) (As := []) (st := []) (ci := 9) dX9_worthBy_20 ⟨cd_X9_worthToAll, im_X9_worthToAll, se_X9_worthToAll, ini_X9⟩ ml_X9_262 (A9_worthToAll (uI r1 0 4 (σ.1 0 4)) _ h2) ⟨rfl, pd_X9_worthToAll⟩ ⟨Nat.le_of_ble_eq_true rfl, Nat.le_of_ble_eq_true rfl⟩ ⟨rfl, rfl⟩ rfl rfl rfl (Nat.le_of_ble_eq_true rfl) ?_
  exact AR.iret (pc := 23) rfl dX9_worthBy_23 (hrI (Option.some.inj h))
noncomputable def f9_byLaw_71 (k45 : Int32 × Int32 × Int32 × HS → Option (Int32 × HS)) (x3 : Int32) (x4 : Int32) (x5 : Int32) (z0 : Int32) (σ : HS) : Option (Int32 × HS) :=
  bd (f9_greater x3 x5 σ) fun r1 =>
  k45 (z0, r1.1, (x4 + 1), r1.2)
noncomputable def f9_byLaw_45_b (k45 : Int32 × Int32 × Int32 × HS → Option (Int32 × HS)) (x2 : Int32) (x3 : Int32) (x4 : Int32) (σ : HS) : Option (Int32 × HS) :=
  if (4 : Int32) ≤ x4 then
    some (x2, σ)
  else
    bd (f9_worthBy x4 σ) fun r2 =>
    if (r2.1 : Int32) ≤ x3 then
      f9_byLaw_71 k45 x3 x4 (r2.1) x2 (r2.2)
    else
      f9_byLaw_71 k45 x3 x4 (r2.1) x4 (r2.2)
noncomputable def f9_byLaw_45 (p : Int32 × Int32 × Int32 × HS) : Option (Int32 × HS) :=
  wloop (fun k45 p => f9_byLaw_45_b k45 p.1 p.2.1 p.2.2.1 p.2.2.2) fuelN p
noncomputable def f9_byLaw (x1 : Int32) (σ : HS) : Option (Int32 × HS) :=
  bd (f9_in ((x1 : Int32).toInt64) (-1) 3 σ) fun r1 =>
  if (r1.1 : Int32) = 0 then
    some ((-2), r1.2)
  else
    if (((r1.2).1 0 1) : Int32) = 0 then
      some ((-3), r1.2)
    else
      if (x1 : Int32) < 0 then
        f9_byLaw_45 (0, (-9), 0, r1.2)
      else
        bd (f9_worthBy x1 (r1.2)) fun r5 =>
        some (r5.1, r5.2)
set_option maxHeartbeats 4000000 in
set_option maxRecDepth 100000 in
theorem A9_byLaw_71 {l : Launch} (k45 : Int32 × Int32 × Int32 × HS → Option (Int32 × HS)) (x3 : Int32) (x4 : Int32) (x5 : Int32) (z0 : Int32) (hk45 : ∀ (p : Int32 × Int32 × Int32 × HS) (r : Int32 × HS), k45 p = some r → AR l RX9 cX9_byLaw 6 (some .int) (wsU yX9_byLaw cX9_byLaw 6 (some .int)) rm9_byLaw SM 45 [(0, .ref 0), (2, .int (p.1)), (3, .int (p.2.1)), (4, .int (p.2.2.1))] [] p.2.2.2 (some (.int r.1), r.2)) (σ : HS) (r : Int32 × HS) (h : f9_byLaw_71 k45 x3 x4 x5 z0 σ = some r) : AR l RX9 cX9_byLaw 6 (some .int) (wsU yX9_byLaw cX9_byLaw 6 (some .int)) rm9_byLaw SM 71 [(0, .ref 0), (3, .int x3), (4, .int x4), (5, .int x5)] [.int z0] σ (some (.int r.1), r.2) := by
  unfold f9_byLaw_71 at h
  refine AR.istore_n (pc := 71) (L2 := [(2, .int z0), (0, .ref 0), (3, .int x3), (4, .int x4), (5, .int x5)]) dX9_byLaw_71 rfl (by decide) rfl ?_
  refine AR.iload_n (pc := 72) (j := 2) dX9_byLaw_72 rfl rfl ?_
  refine AR.iload (pc := 73) (j := 4) dX9_byLaw_73 rfl ?_
  obtain ⟨r1, h1, h⟩ := bd_some h
  refine AR.callS (pc := 75) (As := [.int x3, .int x5]) (st := []) dX9_byLaw_75 ⟨cd_X9_greater, sm_X9_greater, ini_X9⟩ ml_X9_191 (A9_greater x3 x5 σ _ h1) ⟨rfl, pd_X9_greater⟩ ⟨Nat.le_of_ble_eq_true rfl, Nat.le_of_ble_eq_true rfl⟩ ⟨rfl, rfl⟩ rfl (Nat.le_of_ble_eq_true rfl) ?_
  refine AR.istore_n (pc := 78) (L2 := [(3, .int (r1.1)), (2, .int z0), (0, .ref 0), (4, .int x4), (5, .int x5)]) dX9_byLaw_78 rfl (by decide) rfl ?_
  refine AR.iinc (pc := 79) (j := 3) (v := (x4 + 1)) (L2 := [(4, .int (x4 + 1)), (3, .int (r1.1)), (2, .int z0), (0, .ref 0), (5, .int x5)]) dX9_byLaw_79 rfl rfl (by decide) rfl ?_
  refine AR.goto (pc := 82) (tgt := 45) dX9_byLaw_82 (by decide) ?_
  exact AR.pick [3, 2, 1, 0] rfl (hk45 (z0, r1.1, (x4 + 1), r1.2) r h)
set_option maxHeartbeats 4000000 in
set_option maxRecDepth 100000 in
theorem A9_byLaw_45_b {l : Launch} (k45 : Int32 × Int32 × Int32 × HS → Option (Int32 × HS)) (x2 : Int32) (x3 : Int32) (x4 : Int32) (hk45 : ∀ (p : Int32 × Int32 × Int32 × HS) (r : Int32 × HS), k45 p = some r → AR l RX9 cX9_byLaw 6 (some .int) (wsU yX9_byLaw cX9_byLaw 6 (some .int)) rm9_byLaw SM 45 [(0, .ref 0), (2, .int (p.1)), (3, .int (p.2.1)), (4, .int (p.2.2.1))] [] p.2.2.2 (some (.int r.1), r.2)) (σ : HS) (r : Int32 × HS) (h : f9_byLaw_45_b k45 x2 x3 x4 σ = some r) : AR l RX9 cX9_byLaw 6 (some .int) (wsU yX9_byLaw cX9_byLaw 6 (some .int)) rm9_byLaw SM 45 [(0, .ref 0), (2, .int x2), (3, .int x3), (4, .int x4)] [] σ (some (.int r.1), r.2) := by
  unfold f9_byLaw_45_b at h
  refine AR.iload (pc := 45) (j := 3) dX9_byLaw_45 rfl ?_
  refine AR.iconst (pc := 47) (v := 4) dX9_byLaw_47 (by decide) ?_
  refine AR.icmp_ge (pc := 48) (tgt := 85) dX9_byLaw_48 (by decide) (fun c1 => ?_) (fun c1 => ?_)
  · replace h := ite_t c1 h
    refine AR.iload_n (pc := 85) (j := 1) dX9_byLaw_85 rfl rfl ?_
    exact AR.iret (pc := 86) rfl dX9_byLaw_86 (hrI (Option.some.inj h))
  · replace h := ite_f c1 h
    refine AR.aload_n (pc := 51) (j := 0) dX9_byLaw_51 rfl rfl ?_
    refine AR.iload (pc := 52) (j := 3) dX9_byLaw_52 rfl ?_
    obtain ⟨r2, h2, h⟩ := bd_some h
    refine AR.callV (pc := 54) (As := [.int x4]) (st := []) (ci := 9) dX9_byLaw_54 ⟨cd_X9_worthBy, im_X9_worthBy, se_X9_worthBy, ini_X9⟩ ml_X9_282 (A9_worthBy x4 σ _ h2) ⟨rfl, pd_X9_worthBy⟩ ⟨Nat.le_of_ble_eq_true rfl, Nat.le_of_ble_eq_true rfl⟩ ⟨rfl, rfl⟩ rfl rfl rfl (Nat.le_of_ble_eq_true rfl) ?_
    refine AR.istore (pc := 57) (L2 := [(5, .int (r2.1)), (0, .ref 0), (2, .int x2), (3, .int x3), (4, .int x4)]) dX9_byLaw_57 (by decide) rfl ?_
    refine AR.iload (pc := 59) (j := 0) dX9_byLaw_59 rfl ?_
    refine AR.iload_n (pc := 61) (j := 3) dX9_byLaw_61 rfl rfl ?_
    refine AR.icmp_le (pc := 62) (tgt := 70) dX9_byLaw_62 (by decide) (fun c3 => ?_) (fun c3 => ?_)
    · replace h := ite_t c3 h
      refine AR.iload_n (pc := 70) (j := 2) dX9_byLaw_70 rfl rfl ?_
      exact AR.pick [1, 3, 4, 0] rfl (A9_byLaw_71 k45 x3 x4 (r2.1) x2 hk45 (r2.2) r h)
    · replace h := ite_f c3 h
      refine AR.iload (pc := 65) (j := 4) dX9_byLaw_65 rfl ?_
      refine AR.goto (pc := 67) (tgt := 71) dX9_byLaw_67 (by decide) ?_
      exact AR.pick [1, 3, 4, 0] rfl (A9_byLaw_71 k45 x3 x4 (r2.1) x4 hk45 (r2.2) r h)
theorem A9_byLaw_45 {l : Launch} (p : Int32 × Int32 × Int32 × HS) (r : Int32 × HS) (h : f9_byLaw_45 p = some r) : AR l RX9 cX9_byLaw 6 (some .int) (wsU yX9_byLaw cX9_byLaw 6 (some .int)) rm9_byLaw SM 45 [(0, .ref 0), (2, .int (p.1)), (3, .int (p.2.1)), (4, .int (p.2.2.1))] [] p.2.2.2 (some (.int r.1), r.2) := by
  unfold f9_byLaw_45 at h
  exact wloop_run (body := fun k45 p => f9_byLaw_45_b k45 p.1 p.2.1 p.2.2.1 p.2.2.2) (Q := fun p r => AR l RX9 cX9_byLaw 6 (some .int) (wsU yX9_byLaw cX9_byLaw 6 (some .int)) rm9_byLaw SM 45 [(0, .ref 0), (2, .int (p.1)), (3, .int (p.2.1)), (4, .int (p.2.2.1))] [] p.2.2.2 (some (.int r.1), r.2)) (fun k45 hk45 p r h => A9_byLaw_45_b k45 p.1 p.2.1 p.2.2.1 hk45 p.2.2.2 r h) fuelN p r h
set_option maxHeartbeats 4000000 in
set_option maxRecDepth 100000 in
theorem A9_byLaw {l : Launch} (x1 : Int32) (σ : HS) (r : Int32 × HS) (h : f9_byLaw x1 σ = some r) : MA l yX9_byLaw (wsU yX9_byLaw cX9_byLaw 6 (some .int)) rm9_byLaw SM [.ref 0, .int x1] σ (some (.int r.1), r.2) := by
  refine MA.of (L := [(0, .ref 0), (1, .int x1)]) pn_X9_byLaw rfl (fun _ => Nat.le_of_ble_eq_true rfl) (fun _ => rfl) ?_
  unfold f9_byLaw at h
  refine AR.iload_n (pc := 0) (j := 1) dX9_byLaw_0 rfl rfl ?_
  refine AR.i2l (pc := 1) dX9_byLaw_1 ?_
  refine AR.ldc2 (pc := 2) (v := (-1)) dX9_byLaw_2 (wsU_in kl_X9_257) ?_
  refine AR.ldc2 (pc := 5) (v := 3) dX9_byLaw_5 (wsU_in kl_X9_185) ?_
  obtain ⟨r1, h1, h⟩ := bd_some h
  refine AR.callS (pc := 8) (As := [.long ((x1 : Int32).toInt64), .long (-1), .long 3]) (st := []) dX9_byLaw_8 ⟨cd_X9_in, sm_X9_in, ini_X9⟩ ml_X9_102 (A9_in ((x1 : Int32).toInt64) (-1) 3 σ _ h1) ⟨rfl, pd_X9_in⟩ ⟨Nat.le_of_ble_eq_true rfl, Nat.le_of_ble_eq_true rfl⟩ ⟨rfl, rfl⟩ rfl (Nat.le_of_ble_eq_true rfl) ?_
  refine AR.if_ne (pc := 11) (tgt := 17) dX9_byLaw_11 (by decide) (fun c2 => ?_) (fun c2 => ?_)
  · replace h := ite_f c2 h
    refine AR.aload_n (pc := 17) (j := 0) dX9_byLaw_17 rfl rfl ?_
    refine AR.getf (pc := 18) (ci := 9) (j := 1) (d := 0) (v := .int ((r1.2).1 0 1)) (T := TX9) dX9_byLaw_18 rfl rfl rfl (by decide) (fun w hw => wsU_in (uw_X9 w hw)) (wsU_in fl_X9_113) rfl ?_
    refine AR.if_ne (pc := 21) (tgt := 27) dX9_byLaw_21 (by decide) (fun c3 => ?_) (fun c3 => ?_)
    · replace h := ite_f c3 h
      refine AR.iload_n (pc := 27) (j := 1) dX9_byLaw_27 rfl rfl ?_
      refine AR.if_lt (pc := 28) (tgt := 37) dX9_byLaw_28 (by decide) (fun c4 => ?_) (fun c4 => ?_)
      · replace h := ite_t c4 h
        refine AR.iconst (pc := 37) (v := 0) dX9_byLaw_37 (by decide) ?_
        refine AR.istore_n (pc := 38) (L2 := [(2, .int 0), (0, .ref 0), (1, .int x1)]) dX9_byLaw_38 rfl (by decide) rfl ?_
        refine AR.bipush (pc := 39) (v := (-9)) dX9_byLaw_39 (by decide) ?_
        refine AR.istore_n (pc := 41) (L2 := [(3, .int (-9)), (2, .int 0), (0, .ref 0), (1, .int x1)]) dX9_byLaw_41 rfl (by decide) rfl ?_
        refine AR.iconst (pc := 42) (v := 0) dX9_byLaw_42 (by decide) ?_
        refine AR.istore (pc := 43) (L2 := [(4, .int 0), (3, .int (-9)), (2, .int 0), (0, .ref 0), (1, .int x1)]) dX9_byLaw_43 (by decide) rfl ?_
        exact AR.pick [3, 2, 1, 0] rfl (A9_byLaw_45 (0, (-9), 0, r1.2) r h)
      · replace h := ite_f c4 h
        refine AR.aload_n (pc := 31) (j := 0) dX9_byLaw_31 rfl rfl ?_
        refine AR.iload_n (pc := 32) (j := 1) dX9_byLaw_32 rfl rfl ?_
        obtain ⟨r5, h5, h⟩ := bd_some h
        refine AR.callV (pc := 33) (As := [.int x1]) (st := []) (ci := 9) dX9_byLaw_33 ⟨cd_X9_worthBy, im_X9_worthBy, se_X9_worthBy, ini_X9⟩ ml_X9_282 (A9_worthBy x1 (r1.2) _ h5) ⟨rfl, pd_X9_worthBy⟩ ⟨Nat.le_of_ble_eq_true rfl, Nat.le_of_ble_eq_true rfl⟩ ⟨rfl, rfl⟩ rfl rfl rfl (Nat.le_of_ble_eq_true rfl) ?_
        exact AR.iret (pc := 36) rfl dX9_byLaw_36 (hrI (Option.some.inj h))
    · replace h := ite_t c3 h
      refine AR.bipush (pc := 24) (v := (-3)) dX9_byLaw_24 (by decide) ?_
      exact AR.iret (pc := 26) rfl dX9_byLaw_26 (hrI (Option.some.inj h))
  · replace h := ite_t c2 h
    refine AR.bipush (pc := 14) (v := (-2)) dX9_byLaw_14 (by decide) ?_
    exact AR.iret (pc := 16) rfl dX9_byLaw_16 (hrI (Option.some.inj h))
noncomputable def f9_share_18 (σ : HS) : Option (Int64 × HS) :=
  bd (f9_lost σ) fun r1 =>
  some (r1.1, r1.2)
noncomputable def f9_share_67 (k31 : Int32 × Int32 × HS → Option (Int64 × HS)) (x1 : Int32) (x2 : Int32) (x4 : Int32) (z0 : Int32) (z1 : Int32) (σ : HS) : Option (Int64 × HS) :=
  k31 ((z1 + z0), (x4 + 1), σ)
noncomputable def f9_share_31_b (k31 : Int32 × Int32 × HS → Option (Int64 × HS)) (x1 : Int32) (x2 : Int32) (x3 : Int32) (x4 : Int32) (σ : HS) : Option (Int64 × HS) :=
  bd (f9_turnsNow σ) fun r1 =>
  if (r1.1 : Int32) ≤ x4 then
    bd (f9_told ((x3 : Int32).toInt64) ((((r1.2).1 0 2) : Int32).toInt64) x2 (r1.2)) fun r3 =>
    some (r3.1, r3.2)
  else
    bd (f9_speakerOf x4 (r1.2)) fun r4 =>
    if (r4.1 : Int32) = x1 then
      if (x4 : Int32) < 0 ∨ 6 ≤ (x4 : Int32).toNatClampNeg then none else
      bd (f9_lengthAs x1 ((r4.2).1 12 (x4 : Int32).toNatClampNeg) (r4.2)) fun r7 =>
      f9_share_67 k31 x1 x2 x4 (r7.1) x3 (r7.2)
    else
      f9_share_67 k31 x1 x2 x4 0 x3 (r4.2)
noncomputable def f9_share_31 (x1 : Int32) (x2 : Int32) (p : Int32 × Int32 × HS) : Option (Int64 × HS) :=
  wloop (fun k31 p => f9_share_31_b k31 x1 x2 p.1 p.2.1 p.2.2) fuelN p
noncomputable def f9_share (x1 : Int32) (x2 : Int32) (σ : HS) : Option (Int64 × HS) :=
  bd (f9_noSpeaker x1 σ) fun r1 =>
  if (r1.1 : Int32) = 0 then
    bd (f9_in ((x2 : Int32).toInt64) 0 1 (r1.2)) fun r3 =>
    if (r3.1 : Int32) = 0 then
      f9_share_18 (r3.2)
    else
      bd (f9_goFree (r3.2)) fun r5 =>
      f9_share_31 x1 x2 (0, 0, r5)
  else
    f9_share_18 (r1.2)
set_option maxHeartbeats 4000000 in
set_option maxRecDepth 100000 in
theorem A9_share_18 {l : Launch} (σ : HS) (r : Int64 × HS) (h : f9_share_18 σ = some r) : AR l RX9 cX9_share 5 (some .long) (wsU yX9_share cX9_share 5 (some .long)) rm9_share SM 18 [] [] σ (some (.long r.1), r.2) := by
  unfold f9_share_18 at h
  obtain ⟨r1, h1, h⟩ := bd_some h
  refine AR.callS (pc := 18) (As := []) (st := []) dX9_share_18 ⟨cd_X9_lost, sm_X9_lost, ini_X9⟩ ml_X9_88 (A9_lost σ _ h1) ⟨rfl, pd_X9_lost⟩ ⟨Nat.le_of_ble_eq_true rfl, Nat.le_of_ble_eq_true rfl⟩ ⟨rfl, rfl⟩ rfl (Nat.le_of_ble_eq_true rfl) ?_
  exact AR.lret (pc := 21) rfl dX9_share_21 (hrL (Option.some.inj h))
set_option maxHeartbeats 4000000 in
set_option maxRecDepth 100000 in
theorem A9_share_67 {l : Launch} (k31 : Int32 × Int32 × HS → Option (Int64 × HS)) (x1 : Int32) (x2 : Int32) (x4 : Int32) (z0 : Int32) (z1 : Int32) (hk31 : ∀ (p : Int32 × Int32 × HS) (r : Int64 × HS), k31 p = some r → AR l RX9 cX9_share 5 (some .long) (wsU yX9_share cX9_share 5 (some .long)) rm9_share SM 31 [(0, .ref 0), (1, .int x1), (2, .int x2), (3, .int (p.1)), (4, .int (p.2.1))] [] p.2.2 (some (.long r.1), r.2)) (σ : HS) (r : Int64 × HS) (h : f9_share_67 k31 x1 x2 x4 z0 z1 σ = some r) : AR l RX9 cX9_share 5 (some .long) (wsU yX9_share cX9_share 5 (some .long)) rm9_share SM 67 [(0, .ref 0), (1, .int x1), (2, .int x2), (4, .int x4)] [.int z0, .int z1] σ (some (.long r.1), r.2) := by
  unfold f9_share_67 at h
  refine AR.iadd (pc := 67) dX9_share_67 ?_
  refine AR.istore_n (pc := 68) (L2 := [(3, .int (z1 + z0)), (0, .ref 0), (1, .int x1), (2, .int x2), (4, .int x4)]) dX9_share_68 rfl (by decide) rfl ?_
  refine AR.iinc (pc := 69) (j := 4) (v := (x4 + 1)) (L2 := [(4, .int (x4 + 1)), (3, .int (z1 + z0)), (0, .ref 0), (1, .int x1), (2, .int x2)]) dX9_share_69 rfl rfl (by decide) rfl ?_
  refine AR.goto (pc := 72) (tgt := 31) dX9_share_72 (by decide) ?_
  exact AR.pick [2, 3, 4, 1, 0] rfl (hk31 ((z1 + z0), (x4 + 1), σ) r h)
set_option maxHeartbeats 4000000 in
set_option maxRecDepth 100000 in
theorem A9_share_31_b {l : Launch} (k31 : Int32 × Int32 × HS → Option (Int64 × HS)) (x1 : Int32) (x2 : Int32) (x3 : Int32) (x4 : Int32) (hk31 : ∀ (p : Int32 × Int32 × HS) (r : Int64 × HS), k31 p = some r → AR l RX9 cX9_share 5 (some .long) (wsU yX9_share cX9_share 5 (some .long)) rm9_share SM 31 [(0, .ref 0), (1, .int x1), (2, .int x2), (3, .int (p.1)), (4, .int (p.2.1))] [] p.2.2 (some (.long r.1), r.2)) (σ : HS) (r : Int64 × HS) (h : f9_share_31_b k31 x1 x2 x3 x4 σ = some r) : AR l RX9 cX9_share 5 (some .long) (wsU yX9_share cX9_share 5 (some .long)) rm9_share SM 31 [(0, .ref 0), (1, .int x1), (2, .int x2), (3, .int x3), (4, .int x4)] [] σ (some (.long r.1), r.2) := by
  unfold f9_share_31_b at h
  refine AR.iload (pc := 31) (j := 4) dX9_share_31 rfl ?_
  refine AR.aload_n (pc := 33) (j := 0) dX9_share_33 rfl rfl ?_
  obtain ⟨r1, h1, h⟩ := bd_some h
  refine AR.callV (pc := 34) (As := []) (st := [.int x4]) (ci := 9) dX9_share_34 ⟨cd_X9_turnsNow, im_X9_turnsNow, se_X9_turnsNow, ini_X9⟩ ml_X9_215 (A9_turnsNow σ _ h1) ⟨rfl, pd_X9_turnsNow⟩ ⟨Nat.le_of_ble_eq_true rfl, Nat.le_of_ble_eq_true rfl⟩ ⟨rfl, rfl⟩ rfl rfl rfl (Nat.le_of_ble_eq_true rfl) ?_
  refine AR.icmp_ge (pc := 37) (tgt := 75) dX9_share_37 (by decide) (fun c2 => ?_) (fun c2 => ?_)
  · replace h := ite_t c2 h
    refine AR.iload_n (pc := 75) (j := 3) dX9_share_75 rfl rfl ?_
    refine AR.i2l (pc := 76) dX9_share_76 ?_
    refine AR.aload_n (pc := 77) (j := 0) dX9_share_77 rfl rfl ?_
    refine AR.getf (pc := 78) (ci := 9) (j := 2) (d := 0) (v := .int ((r1.2).1 0 2)) (T := TX9) dX9_share_78 rfl rfl rfl (by decide) (fun w hw => wsU_in (uw_X9 w hw)) (wsU_in fl_X9_167) rfl ?_
    refine AR.i2l (pc := 81) dX9_share_81 ?_
    refine AR.iload_n (pc := 82) (j := 2) dX9_share_82 rfl rfl ?_
    obtain ⟨r3, h3, h⟩ := bd_some h
    refine AR.callS (pc := 83) (As := [.long ((x3 : Int32).toInt64), .long ((((r1.2).1 0 2) : Int32).toInt64), .int x2]) (st := []) dX9_share_83 ⟨cd_X9_told, sm_X9_told, ini_X9⟩ ml_X9_285 (A9_told ((x3 : Int32).toInt64) ((((r1.2).1 0 2) : Int32).toInt64) x2 (r1.2) _ h3) ⟨rfl, pd_X9_told⟩ ⟨Nat.le_of_ble_eq_true rfl, Nat.le_of_ble_eq_true rfl⟩ ⟨rfl, rfl⟩ rfl (Nat.le_of_ble_eq_true rfl) ?_
    exact AR.lret (pc := 86) rfl dX9_share_86 (hrL (Option.some.inj h))
  · replace h := ite_f c2 h
    refine AR.iload_n (pc := 40) (j := 3) dX9_share_40 rfl rfl ?_
    refine AR.aload_n (pc := 41) (j := 0) dX9_share_41 rfl rfl ?_
    refine AR.iload (pc := 42) (j := 4) dX9_share_42 rfl ?_
    obtain ⟨r4, h4, h⟩ := bd_some h
    refine AR.callV (pc := 44) (As := [.int x4]) (st := [.int x3]) (ci := 9) dX9_share_44 ⟨cd_X9_speakerOf, im_X9_speakerOf, se_X9_speakerOf, ini_X9⟩ ml_X9_200 (A9_speakerOf x4 (r1.2) _ h4) ⟨rfl, pd_X9_speakerOf⟩ ⟨Nat.le_of_ble_eq_true rfl, Nat.le_of_ble_eq_true rfl⟩ ⟨rfl, rfl⟩ rfl rfl rfl (Nat.le_of_ble_eq_true rfl) ?_
    refine AR.iload_n (pc := 47) (j := 1) dX9_share_47 rfl rfl ?_
    refine AR.icmp_ne (pc := 48) (tgt := 66) dX9_share_48 (by decide) (fun c5 => ?_) (fun c5 => ?_)
    · replace h := ite_f c5 h
      refine AR.iconst (pc := 66) (v := 0) dX9_share_66 (by decide) ?_
      exact AR.pick [0, 1, 2, 4] rfl (A9_share_67 k31 x1 x2 x4 0 x3 hk31 (r4.2) r h)
    · replace h := ite_t c5 h
      refine AR.aload_n (pc := 51) (j := 0) dX9_share_51 rfl rfl ?_
      refine AR.iload_n (pc := 52) (j := 1) dX9_share_52 rfl rfl ?_
      refine AR.aload_n (pc := 53) (j := 0) dX9_share_53 rfl rfl ?_
      refine AR.getf (pc := 54) (ci := 9) (j := 20) (d := 12 + 2) (v := .ref 12) (T := TX9) dX9_share_54 rfl rfl rfl (by decide) (fun w hw => wsU_in (uw_X9 w hw)) (wsU_in fl_X9_43) rfl ?_
      refine AR.iload (pc := 57) (j := 4) dX9_share_57 rfl ?_
      obtain ⟨c6, h⟩ := gn_some h
      refine AR.iaload (pc := 59) dX9_share_59 rfl c6 ?_
      obtain ⟨r7, h7, h⟩ := bd_some h
      refine AR.callV (pc := 60) (As := [.int x1, .int ((r4.2).1 12 (x4 : Int32).toNatClampNeg)]) (st := [.int x3]) (ci := 9) dX9_share_60 ⟨cd_X9_lengthAs, im_X9_lengthAs, se_X9_lengthAs, ini_X9⟩ ml_X9_238 (A9_lengthAs x1 ((r4.2).1 12 (x4 : Int32).toNatClampNeg) (r4.2) _ h7) ⟨rfl, pd_X9_lengthAs⟩ ⟨Nat.le_of_ble_eq_true rfl, Nat.le_of_ble_eq_true rfl⟩ ⟨rfl, rfl⟩ rfl rfl rfl (Nat.le_of_ble_eq_true rfl) ?_
      refine AR.goto (pc := 63) (tgt := 67) dX9_share_63 (by decide) ?_
      exact AR.pick [0, 1, 2, 4] rfl (A9_share_67 k31 x1 x2 x4 (r7.1) x3 hk31 (r7.2) r h)
theorem A9_share_31 {l : Launch} (x1 : Int32) (x2 : Int32) (p : Int32 × Int32 × HS) (r : Int64 × HS) (h : f9_share_31 x1 x2 p = some r) : AR l RX9 cX9_share 5 (some .long) (wsU yX9_share cX9_share 5 (some .long)) rm9_share SM 31 [(0, .ref 0), (1, .int x1), (2, .int x2), (3, .int (p.1)), (4, .int (p.2.1))] [] p.2.2 (some (.long r.1), r.2) := by
  unfold f9_share_31 at h
  exact wloop_run (body := fun k31 p => f9_share_31_b k31 x1 x2 p.1 p.2.1 p.2.2) (Q := fun p r => AR l RX9 cX9_share 5 (some .long) (wsU yX9_share cX9_share 5 (some .long)) rm9_share SM 31 [(0, .ref 0), (1, .int x1), (2, .int x2), (3, .int (p.1)), (4, .int (p.2.1))] [] p.2.2 (some (.long r.1), r.2)) (fun k31 hk31 p r h => A9_share_31_b k31 x1 x2 p.1 p.2.1 hk31 p.2.2 r h) fuelN p r h
set_option maxHeartbeats 4000000 in
set_option maxRecDepth 100000 in
theorem A9_share {l : Launch} (x1 : Int32) (x2 : Int32) (σ : HS) (r : Int64 × HS) (h : f9_share x1 x2 σ = some r) : MA l yX9_share (wsU yX9_share cX9_share 5 (some .long)) rm9_share SM [.ref 0, .int x1, .int x2] σ (some (.long r.1), r.2) := by
  refine MA.of (L := [(0, .ref 0), (1, .int x1), (2, .int x2)]) pn_X9_share rfl (fun _ => Nat.le_of_ble_eq_true rfl) (fun _ => rfl) ?_
  unfold f9_share at h
  refine AR.aload_n (pc := 0) (j := 0) dX9_share_0 rfl rfl ?_
  refine AR.iload_n (pc := 1) (j := 1) dX9_share_1 rfl rfl ?_
  obtain ⟨r1, h1, h⟩ := bd_some h
  refine AR.callV (pc := 2) (As := [.int x1]) (st := []) (ci := 9) dX9_share_2 ⟨cd_X9_noSpeaker, im_X9_noSpeaker, se_X9_noSpeaker, ini_X9⟩ ml_X9_116 (A9_noSpeaker x1 σ _ h1) ⟨rfl, pd_X9_noSpeaker⟩ ⟨Nat.le_of_ble_eq_true rfl, Nat.le_of_ble_eq_true rfl⟩ ⟨rfl, rfl⟩ rfl rfl rfl (Nat.le_of_ble_eq_true rfl) ?_
  refine AR.if_ne (pc := 5) (tgt := 18) dX9_share_5 (by decide) (fun c2 => ?_) (fun c2 => ?_)
  · replace h := ite_f c2 h
    exact AR.pick [] rfl (A9_share_18 (r1.2) r h)
  · replace h := ite_t c2 h
    refine AR.iload_n (pc := 8) (j := 2) dX9_share_8 rfl rfl ?_
    refine AR.i2l (pc := 9) dX9_share_9 ?_
    refine AR.lconst (pc := 10) (v := 0) dX9_share_10 (by decide) ?_
    refine AR.lconst (pc := 11) (v := 1) dX9_share_11 (by decide) ?_
    obtain ⟨r3, h3, h⟩ := bd_some h
    refine AR.callS (pc := 12) (As := [.long ((x2 : Int32).toInt64), .long 0, .long 1]) (st := []) dX9_share_12 ⟨cd_X9_in, sm_X9_in, ini_X9⟩ ml_X9_102 (A9_in ((x2 : Int32).toInt64) 0 1 (r1.2) _ h3) ⟨rfl, pd_X9_in⟩ ⟨Nat.le_of_ble_eq_true rfl, Nat.le_of_ble_eq_true rfl⟩ ⟨rfl, rfl⟩ rfl (Nat.le_of_ble_eq_true rfl) ?_
    refine AR.if_ne (pc := 15) (tgt := 22) dX9_share_15 (by decide) (fun c4 => ?_) (fun c4 => ?_)
    · replace h := ite_f c4 h
      refine AR.aload_n (pc := 22) (j := 0) dX9_share_22 rfl rfl ?_
      obtain ⟨r5, h5, h⟩ := bd_some h
      refine AR.callV (pc := 23) (As := []) (st := []) (ci := 9) dX9_share_23 ⟨cd_X9_goFree, im_X9_goFree, se_X9_goFree, ini_X9⟩ ml_X9_254 (A9_goFree (r3.2) _ h5) ⟨rfl, pd_X9_goFree⟩ ⟨Nat.le_of_ble_eq_true rfl, Nat.le_of_ble_eq_true rfl⟩ ⟨rfl, rfl⟩ rfl rfl rfl (Nat.le_of_ble_eq_true rfl) ?_
      refine AR.iconst (pc := 26) (v := 0) dX9_share_26 (by decide) ?_
      refine AR.istore_n (pc := 27) (L2 := [(3, .int 0), (0, .ref 0), (1, .int x1), (2, .int x2)]) dX9_share_27 rfl (by decide) rfl ?_
      refine AR.iconst (pc := 28) (v := 0) dX9_share_28 (by decide) ?_
      refine AR.istore (pc := 29) (L2 := [(4, .int 0), (3, .int 0), (0, .ref 0), (1, .int x1), (2, .int x2)]) dX9_share_29 (by decide) rfl ?_
      exact AR.pick [2, 3, 4, 1, 0] rfl (A9_share_31 x1 x2 (0, 0, r5) r h)
    · replace h := ite_t c4 h
      exact AR.pick [] rfl (A9_share_18 (r3.2) r h)
noncomputable def f9_sheet_31 (σ : HS) : Option (Int32 × HS) :=
  bd (f9_refused (-2) σ) fun r1 =>
  some (r1.1, r1.2)
noncomputable def f9_sheet_65_b (k65 : Int32 × HS → Option (Int32 × HS)) (x1 : Int32) (x3 : Int32) (x4 : Int32) (σ : HS) : Option (Int32 × HS) :=
  if (x3 : Int32) ≤ x4 then
    bd (f9_refused 1 σ) fun r2 =>
    some (r2.1, r2.2)
  else
    if (((100 * x1) + x4) : Int32) < 0 ∨ 400 ≤ (((100 * x1) + x4) : Int32).toNatClampNeg then none else
    k65 ((x4 + 1), (uI σ 23 (((100 * x1) + x4) : Int32).toNatClampNeg 0))
noncomputable def f9_sheet_65 (x1 : Int32) (x3 : Int32) (p : Int32 × HS) : Option (Int32 × HS) :=
  wloop (fun k65 p => f9_sheet_65_b k65 x1 x3 p.1 p.2) fuelN p
noncomputable def f9_sheet (x1 : Int32) (x2 : Int32) (x3 : Int32) (σ : HS) : Option (Int32 × HS) :=
  bd (f9_noSheet x1 σ) fun r1 =>
  if (r1.1 : Int32) = 0 then
    bd (f9_in ((x2 : Int32).toInt64) 0 2 (r1.2)) fun r3 =>
    if (r3.1 : Int32) = 0 then
      f9_sheet_31 (r3.2)
    else
      if (x3 : Int32) ≤ 100 then
        if 0 ≤ (x3 : Int32) then
          if (x1 : Int32) < 0 ∨ 4 ≤ (x1 : Int32).toNatClampNeg then none else
          if (x1 : Int32) < 0 ∨ 4 ≤ (x1 : Int32).toNatClampNeg then none else
          f9_sheet_65 x1 x3 (0, (uI (uI (r3.2) 21 (x1 : Int32).toNatClampNeg x3) 22 (x1 : Int32).toNatClampNeg x2))
        else
          bd (f9_failed 4 (r3.2)) fun r9 =>
          some (r9.1, r9.2)
      else
        f9_sheet_31 (r3.2)
  else
    bd (f9_refused (-1) (r1.2)) fun r10 =>
    some (r10.1, r10.2)
set_option maxHeartbeats 4000000 in
set_option maxRecDepth 100000 in
theorem A9_sheet_31 {l : Launch} (σ : HS) (r : Int32 × HS) (h : f9_sheet_31 σ = some r) : AR l RX9 cX9_sheet 5 (some .int) (wsU yX9_sheet cX9_sheet 5 (some .int)) rm9_sheet SM 31 [(0, .ref 0)] [] σ (some (.int r.1), r.2) := by
  unfold f9_sheet_31 at h
  refine AR.aload_n (pc := 31) (j := 0) dX9_sheet_31 rfl rfl ?_
  refine AR.bipush (pc := 32) (v := (-2)) dX9_sheet_32 (by decide) ?_
  obtain ⟨r1, h1, h⟩ := bd_some h
  refine AR.callV (pc := 34) (As := [.int (-2)]) (st := []) (ci := 9) dX9_sheet_34 ⟨cd_X9_refused, im_X9_refused, se_X9_refused, ini_X9⟩ ml_X9_96 (A9_refused (-2) σ _ h1) ⟨rfl, pd_X9_refused⟩ ⟨Nat.le_of_ble_eq_true rfl, Nat.le_of_ble_eq_true rfl⟩ ⟨rfl, rfl⟩ rfl rfl rfl (Nat.le_of_ble_eq_true rfl) ?_
  exact AR.iret (pc := 37) rfl dX9_sheet_37 (hrI (Option.some.inj h))
set_option maxHeartbeats 4000000 in
set_option maxRecDepth 100000 in
theorem A9_sheet_65_b {l : Launch} (k65 : Int32 × HS → Option (Int32 × HS)) (x1 : Int32) (x3 : Int32) (x4 : Int32) (hk65 : ∀ (p : Int32 × HS) (r : Int32 × HS), k65 p = some r → AR l RX9 cX9_sheet 5 (some .int) (wsU yX9_sheet cX9_sheet 5 (some .int)) rm9_sheet SM 65 [(0, .ref 0), (1, .int x1), (3, .int x3), (4, .int (p.1))] [] p.2 (some (.int r.1), r.2)) (σ : HS) (r : Int32 × HS) (h : f9_sheet_65_b k65 x1 x3 x4 σ = some r) : AR l RX9 cX9_sheet 5 (some .int) (wsU yX9_sheet cX9_sheet 5 (some .int)) rm9_sheet SM 65 [(0, .ref 0), (1, .int x1), (3, .int x3), (4, .int x4)] [] σ (some (.int r.1), r.2) := by
  unfold f9_sheet_65_b at h
  refine AR.iload (pc := 65) (j := 3) dX9_sheet_65 rfl ?_
  refine AR.iload_n (pc := 67) (j := 2) dX9_sheet_67 rfl rfl ?_
  refine AR.icmp_ge (pc := 68) (tgt := 90) dX9_sheet_68 (by decide) (fun c1 => ?_) (fun c1 => ?_)
  · replace h := ite_t c1 h
    refine AR.aload_n (pc := 90) (j := 0) dX9_sheet_90 rfl rfl ?_
    refine AR.iconst (pc := 91) (v := 1) dX9_sheet_91 (by decide) ?_
    obtain ⟨r2, h2, h⟩ := bd_some h
    refine AR.callV (pc := 92) (As := [.int 1]) (st := []) (ci := 9) dX9_sheet_92 ⟨cd_X9_refused, im_X9_refused, se_X9_refused, ini_X9⟩ ml_X9_96 (A9_refused 1 σ _ h2) ⟨rfl, pd_X9_refused⟩ ⟨Nat.le_of_ble_eq_true rfl, Nat.le_of_ble_eq_true rfl⟩ ⟨rfl, rfl⟩ rfl rfl rfl (Nat.le_of_ble_eq_true rfl) ?_
    exact AR.iret (pc := 95) rfl dX9_sheet_95 (hrI (Option.some.inj h))
  · replace h := ite_f c1 h
    refine AR.aload_n (pc := 71) (j := 0) dX9_sheet_71 rfl rfl ?_
    refine AR.getf (pc := 72) (ci := 9) (j := 34) (d := 23 + 2) (v := .ref 23) (T := TX9) dX9_sheet_72 rfl rfl rfl (by decide) (fun w hw => wsU_in (uw_X9 w hw)) (wsU_in fl_X9_76) rfl ?_
    refine AR.bipush (pc := 75) (v := 100) dX9_sheet_75 (by decide) ?_
    refine AR.iload_n (pc := 77) (j := 1) dX9_sheet_77 rfl rfl ?_
    refine AR.imul (pc := 78) dX9_sheet_78 ?_
    refine AR.iload (pc := 79) (j := 3) dX9_sheet_79 rfl ?_
    refine AR.iadd (pc := 81) dX9_sheet_81 ?_
    refine AR.iconst (pc := 82) (v := 0) dX9_sheet_82 (by decide) ?_
    obtain ⟨c3, h⟩ := gn_some h
    refine AR.iastore (pc := 83) dX9_sheet_83 rfl c3 ?_
    refine AR.iinc (pc := 84) (j := 3) (v := (x4 + 1)) (L2 := [(4, .int (x4 + 1)), (0, .ref 0), (1, .int x1), (3, .int x3)]) dX9_sheet_84 rfl rfl (by decide) rfl ?_
    refine AR.goto (pc := 87) (tgt := 65) dX9_sheet_87 (by decide) ?_
    exact AR.pick [1, 2, 3, 0] rfl (hk65 ((x4 + 1), (uI σ 23 (((100 * x1) + x4) : Int32).toNatClampNeg 0)) r h)
theorem A9_sheet_65 {l : Launch} (x1 : Int32) (x3 : Int32) (p : Int32 × HS) (r : Int32 × HS) (h : f9_sheet_65 x1 x3 p = some r) : AR l RX9 cX9_sheet 5 (some .int) (wsU yX9_sheet cX9_sheet 5 (some .int)) rm9_sheet SM 65 [(0, .ref 0), (1, .int x1), (3, .int x3), (4, .int (p.1))] [] p.2 (some (.int r.1), r.2) := by
  unfold f9_sheet_65 at h
  exact wloop_run (body := fun k65 p => f9_sheet_65_b k65 x1 x3 p.1 p.2) (Q := fun p r => AR l RX9 cX9_sheet 5 (some .int) (wsU yX9_sheet cX9_sheet 5 (some .int)) rm9_sheet SM 65 [(0, .ref 0), (1, .int x1), (3, .int x3), (4, .int (p.1))] [] p.2 (some (.int r.1), r.2)) (fun k65 hk65 p r h => A9_sheet_65_b k65 x1 x3 p.1 hk65 p.2 r h) fuelN p r h
set_option maxHeartbeats 4000000 in
set_option maxRecDepth 100000 in
theorem A9_sheet {l : Launch} (x1 : Int32) (x2 : Int32) (x3 : Int32) (σ : HS) (r : Int32 × HS) (h : f9_sheet x1 x2 x3 σ = some r) : MA l yX9_sheet (wsU yX9_sheet cX9_sheet 5 (some .int)) rm9_sheet SM [.ref 0, .int x1, .int x2, .int x3] σ (some (.int r.1), r.2) := by
  refine MA.of (L := [(0, .ref 0), (1, .int x1), (2, .int x2), (3, .int x3)]) pn_X9_sheet rfl (fun _ => Nat.le_of_ble_eq_true rfl) (fun _ => rfl) ?_
  unfold f9_sheet at h
  refine AR.iload_n (pc := 0) (j := 1) dX9_sheet_0 rfl rfl ?_
  obtain ⟨r1, h1, h⟩ := bd_some h
  refine AR.callS (pc := 1) (As := [.int x1]) (st := []) dX9_sheet_1 ⟨cd_X9_noSheet, sm_X9_noSheet, ini_X9⟩ ml_X9_92 (A9_noSheet x1 σ _ h1) ⟨rfl, pd_X9_noSheet⟩ ⟨Nat.le_of_ble_eq_true rfl, Nat.le_of_ble_eq_true rfl⟩ ⟨rfl, rfl⟩ rfl (Nat.le_of_ble_eq_true rfl) ?_
  refine AR.if_eq (pc := 4) (tgt := 13) dX9_sheet_4 (by decide) (fun c2 => ?_) (fun c2 => ?_)
  · replace h := ite_t c2 h
    refine AR.iload_n (pc := 13) (j := 2) dX9_sheet_13 rfl rfl ?_
    refine AR.i2l (pc := 14) dX9_sheet_14 ?_
    refine AR.lconst (pc := 15) (v := 0) dX9_sheet_15 (by decide) ?_
    refine AR.ldc2 (pc := 16) (v := 2) dX9_sheet_16 (wsU_in kl_X9_100) ?_
    obtain ⟨r3, h3, h⟩ := bd_some h
    refine AR.callS (pc := 19) (As := [.long ((x2 : Int32).toInt64), .long 0, .long 2]) (st := []) dX9_sheet_19 ⟨cd_X9_in, sm_X9_in, ini_X9⟩ ml_X9_102 (A9_in ((x2 : Int32).toInt64) 0 2 (r1.2) _ h3) ⟨rfl, pd_X9_in⟩ ⟨Nat.le_of_ble_eq_true rfl, Nat.le_of_ble_eq_true rfl⟩ ⟨rfl, rfl⟩ rfl (Nat.le_of_ble_eq_true rfl) ?_
    refine AR.if_eq (pc := 22) (tgt := 31) dX9_sheet_22 (by decide) (fun c4 => ?_) (fun c4 => ?_)
    · replace h := ite_t c4 h
      exact AR.pick [0] rfl (A9_sheet_31 (r3.2) r h)
    · replace h := ite_f c4 h
      refine AR.iload_n (pc := 25) (j := 3) dX9_sheet_25 rfl rfl ?_
      refine AR.bipush (pc := 26) (v := 100) dX9_sheet_26 (by decide) ?_
      refine AR.icmp_le (pc := 28) (tgt := 38) dX9_sheet_28 (by decide) (fun c5 => ?_) (fun c5 => ?_)
      · replace h := ite_t c5 h
        refine AR.iload_n (pc := 38) (j := 3) dX9_sheet_38 rfl rfl ?_
        refine AR.if_ge (pc := 39) (tgt := 48) dX9_sheet_39 (by decide) (fun c6 => ?_) (fun c6 => ?_)
        · replace h := ite_t c6 h
          refine AR.aload_n (pc := 48) (j := 0) dX9_sheet_48 rfl rfl ?_
          refine AR.getf (pc := 49) (ci := 9) (j := 32) (d := 21 + 2) (v := .ref 21) (T := TX9) dX9_sheet_49 rfl rfl rfl (by decide) (fun w hw => wsU_in (uw_X9 w hw)) (wsU_in fl_X9_70) rfl ?_
          refine AR.iload_n (pc := 52) (j := 1) dX9_sheet_52 rfl rfl ?_
          refine AR.iload_n (pc := 53) (j := 3) dX9_sheet_53 rfl rfl ?_
          obtain ⟨c7, h⟩ := gn_some h
          refine AR.iastore (pc := 54) dX9_sheet_54 rfl c7 ?_
          refine AR.aload_n (pc := 55) (j := 0) dX9_sheet_55 rfl rfl ?_
          refine AR.getf (pc := 56) (ci := 9) (j := 33) (d := 22 + 2) (v := .ref 22) (T := TX9) dX9_sheet_56 rfl rfl rfl (by decide) (fun w hw => wsU_in (uw_X9 w hw)) (wsU_in fl_X9_73) rfl ?_
          refine AR.iload_n (pc := 59) (j := 1) dX9_sheet_59 rfl rfl ?_
          refine AR.iload_n (pc := 60) (j := 2) dX9_sheet_60 rfl rfl ?_
          obtain ⟨c8, h⟩ := gn_some h
          refine AR.iastore (pc := 61) dX9_sheet_61 rfl c8 ?_
          refine AR.iconst (pc := 62) (v := 0) dX9_sheet_62 (by decide) ?_
          refine AR.istore (pc := 63) (L2 := [(4, .int 0), (0, .ref 0), (1, .int x1), (2, .int x2), (3, .int x3)]) dX9_sheet_63 (by decide) rfl ?_
          exact AR.pick [1, 2, 4, 0] rfl (A9_sheet_65 x1 x3 (0, (uI (uI (r3.2) 21 (x1 : Int32).toNatClampNeg x3) 22 (x1 : Int32).toNatClampNeg x2)) r h)
        · replace h := ite_f c6 h
          refine AR.aload_n (pc := 42) (j := 0) dX9_sheet_42 rfl rfl ?_
          refine AR.iconst (pc := 43) (v := 4) dX9_sheet_43 (by decide) ?_
          obtain ⟨r9, h9, h⟩ := bd_some h
          refine AR.callV (pc := 44) (As := [.int 4]) (st := []) (ci := 9) dX9_sheet_44 ⟨cd_X9_failed, im_X9_failed, se_X9_failed, ini_X9⟩ ml_X9_106 (A9_failed 4 (r3.2) _ h9) ⟨rfl, pd_X9_failed⟩ ⟨Nat.le_of_ble_eq_true rfl, Nat.le_of_ble_eq_true rfl⟩ ⟨rfl, rfl⟩ rfl rfl rfl (Nat.le_of_ble_eq_true rfl) ?_
          exact AR.iret (pc := 47) rfl dX9_sheet_47 (hrI (Option.some.inj h))
      · replace h := ite_f c5 h
        exact AR.pick [0] rfl (A9_sheet_31 (r3.2) r h)
  · replace h := ite_f c2 h
    refine AR.aload_n (pc := 7) (j := 0) dX9_sheet_7 rfl rfl ?_
    refine AR.iconst (pc := 8) (v := (-1)) dX9_sheet_8 (by decide) ?_
    obtain ⟨r10, h10, h⟩ := bd_some h
    refine AR.callV (pc := 9) (As := [.int (-1)]) (st := []) (ci := 9) dX9_sheet_9 ⟨cd_X9_refused, im_X9_refused, se_X9_refused, ini_X9⟩ ml_X9_96 (A9_refused (-1) (r1.2) _ h10) ⟨rfl, pd_X9_refused⟩ ⟨Nat.le_of_ble_eq_true rfl, Nat.le_of_ble_eq_true rfl⟩ ⟨rfl, rfl⟩ rfl rfl rfl (Nat.le_of_ble_eq_true rfl) ?_
    exact AR.iret (pc := 12) rfl dX9_sheet_12 (hrI (Option.some.inj h))
noncomputable def f9_lose_23 (x1 : Int32) (z0 : Int32) (σ : HS) : Option (Int32 × HS) :=
  if (x1 : Int32) < 0 ∨ 4 ≤ (x1 : Int32).toNatClampNeg then none else
  some (z0, (uI σ 21 (x1 : Int32).toNatClampNeg (-1)))
noncomputable def f9_lose (x1 : Int32) (σ : HS) : Option (Int32 × HS) :=
  bd (f9_noSheet x1 σ) fun r1 =>
  if (r1.1 : Int32) = 0 then
    if (x1 : Int32) < 0 ∨ 4 ≤ (x1 : Int32).toNatClampNeg then none else
    if 0 ≤ (((r1.2).1 21 (x1 : Int32).toNatClampNeg) : Int32) then
      f9_lose_23 x1 1 (r1.2)
    else
      f9_lose_23 x1 0 (r1.2)
  else
    some ((-1), r1.2)
set_option maxHeartbeats 4000000 in
set_option maxRecDepth 100000 in
theorem A9_lose_23 {l : Launch} (x1 : Int32) (z0 : Int32) (σ : HS) (r : Int32 × HS) (h : f9_lose_23 x1 z0 σ = some r) : AR l RX9 cX9_lose 3 (some .int) (wsU yX9_lose cX9_lose 3 (some .int)) rm9_lose SM 23 [(0, .ref 0), (1, .int x1)] [.int z0] σ (some (.int r.1), r.2) := by
  unfold f9_lose_23 at h
  refine AR.istore_n (pc := 23) (L2 := [(2, .int z0), (0, .ref 0), (1, .int x1)]) dX9_lose_23 rfl (by decide) rfl ?_
  refine AR.aload_n (pc := 24) (j := 1) dX9_lose_24 rfl rfl ?_
  refine AR.getf (pc := 25) (ci := 9) (j := 32) (d := 21 + 2) (v := .ref 21) (T := TX9) dX9_lose_25 rfl rfl rfl (by decide) (fun w hw => wsU_in (uw_X9 w hw)) (wsU_in fl_X9_70) rfl ?_
  refine AR.iload_n (pc := 28) (j := 2) dX9_lose_28 rfl rfl ?_
  refine AR.iconst (pc := 29) (v := (-1)) dX9_lose_29 (by decide) ?_
  obtain ⟨c1, h⟩ := gn_some h
  refine AR.iastore (pc := 30) dX9_lose_30 rfl c1 ?_
  refine AR.iload_n (pc := 31) (j := 0) dX9_lose_31 rfl rfl ?_
  exact AR.iret (pc := 32) rfl dX9_lose_32 (hrI (Option.some.inj h))
set_option maxHeartbeats 4000000 in
set_option maxRecDepth 100000 in
theorem A9_lose {l : Launch} (x1 : Int32) (σ : HS) (r : Int32 × HS) (h : f9_lose x1 σ = some r) : MA l yX9_lose (wsU yX9_lose cX9_lose 3 (some .int)) rm9_lose SM [.ref 0, .int x1] σ (some (.int r.1), r.2) := by
  refine MA.of (L := [(0, .ref 0), (1, .int x1)]) pn_X9_lose rfl (fun _ => Nat.le_of_ble_eq_true rfl) (fun _ => rfl) ?_
  unfold f9_lose at h
  refine AR.iload_n (pc := 0) (j := 1) dX9_lose_0 rfl rfl ?_
  obtain ⟨r1, h1, h⟩ := bd_some h
  refine AR.callS (pc := 1) (As := [.int x1]) (st := []) dX9_lose_1 ⟨cd_X9_noSheet, sm_X9_noSheet, ini_X9⟩ ml_X9_92 (A9_noSheet x1 σ _ h1) ⟨rfl, pd_X9_noSheet⟩ ⟨Nat.le_of_ble_eq_true rfl, Nat.le_of_ble_eq_true rfl⟩ ⟨rfl, rfl⟩ rfl (Nat.le_of_ble_eq_true rfl) ?_
  refine AR.if_eq (pc := 4) (tgt := 9) dX9_lose_4 (by decide) (fun c2 => ?_) (fun c2 => ?_)
  · replace h := ite_t c2 h
    refine AR.aload_n (pc := 9) (j := 0) dX9_lose_9 rfl rfl ?_
    refine AR.getf (pc := 10) (ci := 9) (j := 32) (d := 21 + 2) (v := .ref 21) (T := TX9) dX9_lose_10 rfl rfl rfl (by decide) (fun w hw => wsU_in (uw_X9 w hw)) (wsU_in fl_X9_70) rfl ?_
    refine AR.iload_n (pc := 13) (j := 1) dX9_lose_13 rfl rfl ?_
    obtain ⟨c3, h⟩ := gn_some h
    refine AR.iaload (pc := 14) dX9_lose_14 rfl c3 ?_
    refine AR.if_ge (pc := 15) (tgt := 22) dX9_lose_15 (by decide) (fun c4 => ?_) (fun c4 => ?_)
    · replace h := ite_t c4 h
      refine AR.iconst (pc := 22) (v := 1) dX9_lose_22 (by decide) ?_
      exact AR.pick [0, 1] rfl (A9_lose_23 x1 1 (r1.2) r h)
    · replace h := ite_f c4 h
      refine AR.iconst (pc := 18) (v := 0) dX9_lose_18 (by decide) ?_
      refine AR.goto (pc := 19) (tgt := 23) dX9_lose_19 (by decide) ?_
      exact AR.pick [0, 1] rfl (A9_lose_23 x1 0 (r1.2) r h)
  · replace h := ite_f c2 h
    refine AR.iconst (pc := 7) (v := (-1)) dX9_lose_7 (by decide) ?_
    exact AR.iret (pc := 8) rfl dX9_lose_8 (hrI (Option.some.inj h))
noncomputable def f9_noCell (x1 : Int32) (x2 : Int32) (σ : HS) : Option (Int32 × HS) :=
  if (x1 : Int32) < 0 ∨ 4 ≤ (x1 : Int32).toNatClampNeg then none else
  if 0 ≤ ((σ.1 21 (x1 : Int32).toNatClampNeg) : Int32) then
    if (x1 : Int32) < 0 ∨ 4 ≤ (x1 : Int32).toNatClampNeg then none else
    bd (f9_in ((x2 : Int32).toInt64) 0 ((((σ.1 21 (x1 : Int32).toNatClampNeg) : Int32).toInt64) - 1) σ) fun r4 =>
    if (r4.1 : Int32) = 0 then
      some (3, r4.2)
    else
      some (0, r4.2)
  else
    some (1, σ)
set_option maxHeartbeats 4000000 in
set_option maxRecDepth 100000 in
theorem A9_noCell {l : Launch} (x1 : Int32) (x2 : Int32) (σ : HS) (r : Int32 × HS) (h : f9_noCell x1 x2 σ = some r) : MA l yX9_noCell (wsU yX9_noCell cX9_noCell 3 (some .int)) rm9_noCell SM [.ref 0, .int x1, .int x2] σ (some (.int r.1), r.2) := by
  refine MA.of (L := [(0, .ref 0), (1, .int x1), (2, .int x2)]) pn_X9_noCell rfl (fun _ => Nat.le_of_ble_eq_true rfl) (fun _ => rfl) ?_
  unfold f9_noCell at h
  refine AR.aload_n (pc := 0) (j := 0) dX9_noCell_0 rfl rfl ?_
  refine AR.getf (pc := 1) (ci := 9) (j := 32) (d := 21 + 2) (v := .ref 21) (T := TX9) dX9_noCell_1 rfl rfl rfl (by decide) (fun w hw => wsU_in (uw_X9 w hw)) (wsU_in fl_X9_70) rfl ?_
  refine AR.iload_n (pc := 4) (j := 1) dX9_noCell_4 rfl rfl ?_
  obtain ⟨c1, h⟩ := gn_some h
  refine AR.iaload (pc := 5) dX9_noCell_5 rfl c1 ?_
  refine AR.if_ge (pc := 6) (tgt := 13) dX9_noCell_6 (by decide) (fun c2 => ?_) (fun c2 => ?_)
  · replace h := ite_t c2 h
    refine AR.iload_n (pc := 13) (j := 2) dX9_noCell_13 rfl rfl ?_
    refine AR.i2l (pc := 14) dX9_noCell_14 ?_
    refine AR.lconst (pc := 15) (v := 0) dX9_noCell_15 (by decide) ?_
    refine AR.aload_n (pc := 16) (j := 0) dX9_noCell_16 rfl rfl ?_
    refine AR.getf (pc := 17) (ci := 9) (j := 32) (d := 21 + 2) (v := .ref 21) (T := TX9) dX9_noCell_17 rfl rfl rfl (by decide) (fun w hw => wsU_in (uw_X9 w hw)) (wsU_in fl_X9_70) rfl ?_
    refine AR.iload_n (pc := 20) (j := 1) dX9_noCell_20 rfl rfl ?_
    obtain ⟨c3, h⟩ := gn_some h
    refine AR.iaload (pc := 21) dX9_noCell_21 rfl c3 ?_
    refine AR.i2l (pc := 22) dX9_noCell_22 ?_
    refine AR.lconst (pc := 23) (v := 1) dX9_noCell_23 (by decide) ?_
    refine AR.lsub (pc := 24) dX9_noCell_24 ?_
    obtain ⟨r4, h4, h⟩ := bd_some h
    refine AR.callS (pc := 25) (As := [.long ((x2 : Int32).toInt64), .long 0, .long ((((σ.1 21 (x1 : Int32).toNatClampNeg) : Int32).toInt64) - 1)]) (st := []) dX9_noCell_25 ⟨cd_X9_in, sm_X9_in, ini_X9⟩ ml_X9_102 (A9_in ((x2 : Int32).toInt64) 0 ((((σ.1 21 (x1 : Int32).toNatClampNeg) : Int32).toInt64) - 1) σ _ h4) ⟨rfl, pd_X9_in⟩ ⟨Nat.le_of_ble_eq_true rfl, Nat.le_of_ble_eq_true rfl⟩ ⟨rfl, rfl⟩ rfl (Nat.le_of_ble_eq_true rfl) ?_
    refine AR.if_eq (pc := 28) (tgt := 35) dX9_noCell_28 (by decide) (fun c5 => ?_) (fun c5 => ?_)
    · replace h := ite_t c5 h
      refine AR.iconst (pc := 35) (v := 3) dX9_noCell_35 (by decide) ?_
      exact AR.iret (pc := 36) rfl dX9_noCell_36 (hrI (Option.some.inj h))
    · replace h := ite_f c5 h
      refine AR.iconst (pc := 31) (v := 0) dX9_noCell_31 (by decide) ?_
      refine AR.goto (pc := 32) (tgt := 36) dX9_noCell_32 (by decide) ?_
      exact AR.iret (pc := 36) rfl dX9_noCell_36 (hrI (Option.some.inj h))
  · replace h := ite_f c2 h
    refine AR.iconst (pc := 9) (v := 1) dX9_noCell_9 (by decide) ?_
    refine AR.goto (pc := 10) (tgt := 36) dX9_noCell_10 (by decide) ?_
    exact AR.iret (pc := 36) rfl dX9_noCell_36 (hrI (Option.some.inj h))
noncomputable def f9_put_73 (z0 : Int32) (z1 : Int32) (σ : HS) : Option (Int32 × HS) :=
  if (z1 : Int32) < 0 ∨ 400 ≤ (z1 : Int32).toNatClampNeg then none else
  bd (f9_refused 1 (uI σ 23 (z1 : Int32).toNatClampNeg z0)) fun r2 =>
  some (r2.1, r2.2)
noncomputable def f9_put (x1 : Int32) (x2 : Int32) (x3 : Int32) (σ : HS) : Option (Int32 × HS) :=
  bd (f9_noSheet x1 σ) fun r1 =>
  if (r1.1 : Int32) = 0 then
    bd (f9_noCell x1 x2 (r1.2)) fun r3 =>
    if (r3.1 : Int32) ≤ 0 then
      if (x1 : Int32) < 0 ∨ 4 ≤ (x1 : Int32).toNatClampNeg then none else
      if (((r3.2).1 22 (x1 : Int32).toNatClampNeg) : Int32) = 0 then
        f9_put_73 ((x3 : Int32).toInt8.toInt32) ((100 * x1) + x2) (r3.2)
      else
        if (x1 : Int32) < 0 ∨ 4 ≤ (x1 : Int32).toNatClampNeg then none else
        if (((r3.2).1 22 (x1 : Int32).toNatClampNeg) : Int32) = 1 then
          f9_put_73 ((x3 : Int32).toInt16.toInt32) ((100 * x1) + x2) (r3.2)
        else
          f9_put_73 x3 ((100 * x1) + x2) (r3.2)
    else
      bd (f9_noCell x1 x2 (r3.2)) fun r9 =>
      bd (f9_failed (r9.1) (r9.2)) fun r10 =>
      some (r10.1, r10.2)
  else
    bd (f9_refused (-1) (r1.2)) fun r11 =>
    some (r11.1, r11.2)
set_option maxHeartbeats 4000000 in
set_option maxRecDepth 100000 in
theorem A9_put_73 {l : Launch} (z0 : Int32) (z1 : Int32) (σ : HS) (r : Int32 × HS) (h : f9_put_73 z0 z1 σ = some r) : AR l RX9 cX9_put 4 (some .int) (wsU yX9_put cX9_put 4 (some .int)) rm9_put SM 73 [(0, .ref 0)] [.int z0, .int z1, .ref 23] σ (some (.int r.1), r.2) := by
  unfold f9_put_73 at h
  obtain ⟨c1, h⟩ := gn_some h
  refine AR.iastore (pc := 73) dX9_put_73 rfl c1 ?_
  refine AR.aload_n (pc := 74) (j := 0) dX9_put_74 rfl rfl ?_
  refine AR.iconst (pc := 75) (v := 1) dX9_put_75 (by decide) ?_
  obtain ⟨r2, h2, h⟩ := bd_some h
  refine AR.callV (pc := 76) (As := [.int 1]) (st := []) (ci := 9) dX9_put_76 ⟨cd_X9_refused, im_X9_refused, se_X9_refused, ini_X9⟩ ml_X9_96 (A9_refused 1 (uI σ 23 (z1 : Int32).toNatClampNeg z0) _ h2) ⟨rfl, pd_X9_refused⟩ ⟨Nat.le_of_ble_eq_true rfl, Nat.le_of_ble_eq_true rfl⟩ ⟨rfl, rfl⟩ rfl rfl rfl (Nat.le_of_ble_eq_true rfl) ?_
  exact AR.iret (pc := 79) rfl dX9_put_79 (hrI (Option.some.inj h))
set_option maxHeartbeats 4000000 in
set_option maxRecDepth 100000 in
theorem A9_put {l : Launch} (x1 : Int32) (x2 : Int32) (x3 : Int32) (σ : HS) (r : Int32 × HS) (h : f9_put x1 x2 x3 σ = some r) : MA l yX9_put (wsU yX9_put cX9_put 4 (some .int)) rm9_put SM [.ref 0, .int x1, .int x2, .int x3] σ (some (.int r.1), r.2) := by
  refine MA.of (L := [(0, .ref 0), (1, .int x1), (2, .int x2), (3, .int x3)]) pn_X9_put rfl (fun _ => Nat.le_of_ble_eq_true rfl) (fun _ => rfl) ?_
  unfold f9_put at h
  refine AR.iload_n (pc := 0) (j := 1) dX9_put_0 rfl rfl ?_
  obtain ⟨r1, h1, h⟩ := bd_some h
  refine AR.callS (pc := 1) (As := [.int x1]) (st := []) dX9_put_1 ⟨cd_X9_noSheet, sm_X9_noSheet, ini_X9⟩ ml_X9_92 (A9_noSheet x1 σ _ h1) ⟨rfl, pd_X9_noSheet⟩ ⟨Nat.le_of_ble_eq_true rfl, Nat.le_of_ble_eq_true rfl⟩ ⟨rfl, rfl⟩ rfl (Nat.le_of_ble_eq_true rfl) ?_
  refine AR.if_eq (pc := 4) (tgt := 13) dX9_put_4 (by decide) (fun c2 => ?_) (fun c2 => ?_)
  · replace h := ite_t c2 h
    refine AR.aload_n (pc := 13) (j := 0) dX9_put_13 rfl rfl ?_
    refine AR.iload_n (pc := 14) (j := 1) dX9_put_14 rfl rfl ?_
    refine AR.iload_n (pc := 15) (j := 2) dX9_put_15 rfl rfl ?_
    obtain ⟨r3, h3, h⟩ := bd_some h
    refine AR.callV (pc := 16) (As := [.int x1, .int x2]) (st := []) (ci := 9) dX9_put_16 ⟨cd_X9_noCell, im_X9_noCell, se_X9_noCell, ini_X9⟩ ml_X9_289 (A9_noCell x1 x2 (r1.2) _ h3) ⟨rfl, pd_X9_noCell⟩ ⟨Nat.le_of_ble_eq_true rfl, Nat.le_of_ble_eq_true rfl⟩ ⟨rfl, rfl⟩ rfl rfl rfl (Nat.le_of_ble_eq_true rfl) ?_
    refine AR.if_le (pc := 19) (tgt := 33) dX9_put_19 (by decide) (fun c4 => ?_) (fun c4 => ?_)
    · replace h := ite_t c4 h
      refine AR.aload_n (pc := 33) (j := 0) dX9_put_33 rfl rfl ?_
      refine AR.getf (pc := 34) (ci := 9) (j := 34) (d := 23 + 2) (v := .ref 23) (T := TX9) dX9_put_34 rfl rfl rfl (by decide) (fun w hw => wsU_in (uw_X9 w hw)) (wsU_in fl_X9_76) rfl ?_
      refine AR.bipush (pc := 37) (v := 100) dX9_put_37 (by decide) ?_
      refine AR.iload_n (pc := 39) (j := 1) dX9_put_39 rfl rfl ?_
      refine AR.imul (pc := 40) dX9_put_40 ?_
      refine AR.iload_n (pc := 41) (j := 2) dX9_put_41 rfl rfl ?_
      refine AR.iadd (pc := 42) dX9_put_42 ?_
      refine AR.aload_n (pc := 43) (j := 0) dX9_put_43 rfl rfl ?_
      refine AR.getf (pc := 44) (ci := 9) (j := 33) (d := 22 + 2) (v := .ref 22) (T := TX9) dX9_put_44 rfl rfl rfl (by decide) (fun w hw => wsU_in (uw_X9 w hw)) (wsU_in fl_X9_73) rfl ?_
      refine AR.iload_n (pc := 47) (j := 1) dX9_put_47 rfl rfl ?_
      obtain ⟨c5, h⟩ := gn_some h
      refine AR.iaload (pc := 48) dX9_put_48 rfl c5 ?_
      refine AR.if_ne (pc := 49) (tgt := 57) dX9_put_49 (by decide) (fun c6 => ?_) (fun c6 => ?_)
      · replace h := ite_f c6 h
        refine AR.aload_n (pc := 57) (j := 0) dX9_put_57 rfl rfl ?_
        refine AR.getf (pc := 58) (ci := 9) (j := 33) (d := 22 + 2) (v := .ref 22) (T := TX9) dX9_put_58 rfl rfl rfl (by decide) (fun w hw => wsU_in (uw_X9 w hw)) (wsU_in fl_X9_73) rfl ?_
        refine AR.iload_n (pc := 61) (j := 1) dX9_put_61 rfl rfl ?_
        obtain ⟨c7, h⟩ := gn_some h
        refine AR.iaload (pc := 62) dX9_put_62 rfl c7 ?_
        refine AR.iconst (pc := 63) (v := 1) dX9_put_63 (by decide) ?_
        refine AR.icmp_ne (pc := 64) (tgt := 72) dX9_put_64 (by decide) (fun c8 => ?_) (fun c8 => ?_)
        · replace h := ite_f c8 h
          refine AR.iload_n (pc := 72) (j := 3) dX9_put_72 rfl rfl ?_
          exact AR.pick [0] rfl (A9_put_73 x3 ((100 * x1) + x2) (r3.2) r h)
        · replace h := ite_t c8 h
          refine AR.iload_n (pc := 67) (j := 3) dX9_put_67 rfl rfl ?_
          refine AR.i2s (pc := 68) dX9_put_68 ?_
          refine AR.goto (pc := 69) (tgt := 73) dX9_put_69 (by decide) ?_
          exact AR.pick [0] rfl (A9_put_73 ((x3 : Int32).toInt16.toInt32) ((100 * x1) + x2) (r3.2) r h)
      · replace h := ite_t c6 h
        refine AR.iload_n (pc := 52) (j := 3) dX9_put_52 rfl rfl ?_
        refine AR.i2b (pc := 53) dX9_put_53 ?_
        refine AR.goto (pc := 54) (tgt := 73) dX9_put_54 (by decide) ?_
        exact AR.pick [0] rfl (A9_put_73 ((x3 : Int32).toInt8.toInt32) ((100 * x1) + x2) (r3.2) r h)
    · replace h := ite_f c4 h
      refine AR.aload_n (pc := 22) (j := 0) dX9_put_22 rfl rfl ?_
      refine AR.aload_n (pc := 23) (j := 0) dX9_put_23 rfl rfl ?_
      refine AR.iload_n (pc := 24) (j := 1) dX9_put_24 rfl rfl ?_
      refine AR.iload_n (pc := 25) (j := 2) dX9_put_25 rfl rfl ?_
      obtain ⟨r9, h9, h⟩ := bd_some h
      refine AR.callV (pc := 26) (As := [.int x1, .int x2]) (st := [.ref 0]) (ci := 9) dX9_put_26 ⟨cd_X9_noCell, im_X9_noCell, se_X9_noCell, ini_X9⟩ ml_X9_289 (A9_noCell x1 x2 (r3.2) _ h9) ⟨rfl, pd_X9_noCell⟩ ⟨Nat.le_of_ble_eq_true rfl, Nat.le_of_ble_eq_true rfl⟩ ⟨rfl, rfl⟩ rfl rfl rfl (Nat.le_of_ble_eq_true rfl) ?_
      obtain ⟨r10, h10, h⟩ := bd_some h
      refine AR.callV (pc := 29) (As := [.int (r9.1)]) (st := []) (ci := 9) dX9_put_29 ⟨cd_X9_failed, im_X9_failed, se_X9_failed, ini_X9⟩ ml_X9_106 (A9_failed (r9.1) (r9.2) _ h10) ⟨rfl, pd_X9_failed⟩ ⟨Nat.le_of_ble_eq_true rfl, Nat.le_of_ble_eq_true rfl⟩ ⟨rfl, rfl⟩ rfl rfl rfl (Nat.le_of_ble_eq_true rfl) ?_
      exact AR.iret (pc := 32) rfl dX9_put_32 (hrI (Option.some.inj h))
  · replace h := ite_f c2 h
    refine AR.aload_n (pc := 7) (j := 0) dX9_put_7 rfl rfl ?_
    refine AR.iconst (pc := 8) (v := (-1)) dX9_put_8 (by decide) ?_
    obtain ⟨r11, h11, h⟩ := bd_some h
    refine AR.callV (pc := 9) (As := [.int (-1)]) (st := []) (ci := 9) dX9_put_9 ⟨cd_X9_refused, im_X9_refused, se_X9_refused, ini_X9⟩ ml_X9_96 (A9_refused (-1) (r1.2) _ h11) ⟨rfl, pd_X9_refused⟩ ⟨Nat.le_of_ble_eq_true rfl, Nat.le_of_ble_eq_true rfl⟩ ⟨rfl, rfl⟩ rfl rfl rfl (Nat.le_of_ble_eq_true rfl) ?_
    exact AR.iret (pc := 12) rfl dX9_put_12 (hrI (Option.some.inj h))
