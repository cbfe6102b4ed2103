set_option maxHeartbeats 4000000 in
set_option maxRecDepth 100000 in
theorem A8_worthUnder {l : Launch} (x1 : Int32) (σ : HS) (r : Int32 × HS) (h : f8_worthUnder x1 σ = some r) : MA l yX8_worthUnder (wsU yX8_worthUnder cX8_worthUnder 2 (some .int)) rm8_worthUnder SC [.ref 0, .int x1] σ (some (.int r.1), r.2) := by
  refine MA.of (L := [(0, .ref 0), (1, .int x1)]) pn_X8_worthUnder rfl (fun _ => Nat.le_of_ble_eq_true rfl) (fun _ => rfl) ?_
  unfold f8_worthUnder at h
  refine AR.aload_n (pc := 0) (j := 0) dX8_worthUnder_0 rfl rfl ?_
  refine AR.getf (pc := 1) (ci := 8) (j := 6) (d := 30 + 2) (v := .ref 30) (T := TX8) dX8_worthUnder_1 rfl rfl rfl (by decide) (fun w hw => wsU_in (uw_X8 w hw)) (wsU_in fl_X8_76) rfl ?_
  refine AR.aload_n (pc := 4) (j := 0) dX8_worthUnder_4 rfl rfl ?_
  refine AR.getf (pc := 5) (ci := 8) (j := 3) (d := 20 + 2) (v := .ref 20) (T := TX8) dX8_worthUnder_5 rfl rfl rfl (by decide) (fun w hw => wsU_in (uw_X8 w hw)) (wsU_in fl_X8_54) rfl ?_
  obtain ⟨r1, h1, h⟩ := bd_some h
  refine AR.callVN (pc := 8) (As := [.ref 20]) (st := []) (ci := 0) dX8_worthUnder_8 ⟨cd_X0_follow, im_X0_follow, se_X0_follow, ini_X0⟩ mn_X8_231 (A0_follow σ _ h1) ⟨rfl, pd_X0_follow⟩ ⟨Nat.le_of_ble_eq_true rfl, Nat.le_of_ble_eq_true rfl⟩ ⟨rfl, rfl⟩ rfl rfl rfl (Nat.le_of_ble_eq_true rfl) ?_
  refine AR.aload_n (pc := 11) (j := 0) dX8_worthUnder_11 rfl rfl ?_
  refine AR.getf (pc := 12) (ci := 8) (j := 6) (d := 30 + 2) (v := .ref 30) (T := TX8) dX8_worthUnder_12 rfl rfl rfl (by decide) (fun w hw => wsU_in (uw_X8 w hw)) (wsU_in fl_X8_76) rfl ?_
  refine AR.iload_n (pc := 15) (j := 1) dX8_worthUnder_15 rfl rfl ?_
  refine AR.putIN (pc := 16) (ci := 0) (j := 2) (T := TX0) (ty0 := tyX0) (ty := .int) dX8_worthUnder_16 rfl rfl rfl (by decide) (fun w hw => wsU_in (uw_X0 w hw)) tyX0_ok nmX0 fn_X8_160 rfl (by decide +kernel) rfl rfl ?_
  refine AR.aload_n (pc := 19) (j := 0) dX8_worthUnder_19 rfl rfl ?_
  refine AR.getf (pc := 20) (ci := 8) (j := 7) (d := 32 + 2) (v := .ref 32) (T := TX8) dX8_worthUnder_20 rfl rfl rfl (by decide) (fun w hw => wsU_in (uw_X8 w hw)) (wsU_in fl_X8_79) rfl ?_
  obtain ⟨r2, h2, h⟩ := bd_some h
  refine AR.callVN (pc := 23) (As := []) (st := []) (ci := 5) dX8_worthUnder_23 ⟨cd_X5_makeForFreeDay, im_X5_makeForFreeDay, se_X5_makeForFreeDay, ini_X5⟩ mn_X8_290 (A5_makeForFreeDay (uI r1 30 2 x1) _ h2) ⟨rfl, pd_X5_makeForFreeDay⟩ ⟨Nat.le_of_ble_eq_true rfl, Nat.le_of_ble_eq_true rfl⟩ ⟨rfl, rfl⟩ rfl rfl rfl (Nat.le_of_ble_eq_true rfl) ?_
  refine AR.aload_n (pc := 26) (j := 0) dX8_worthUnder_26 rfl rfl ?_
  refine AR.getf (pc := 27) (ci := 8) (j := 8) (d := 37 + 2) (v := .ref 37) (T := TX8) dX8_worthUnder_27 rfl rfl rfl (by decide) (fun w hw => wsU_in (uw_X8 w hw)) (wsU_in fl_X8_82) rfl ?_
  obtain ⟨r3, h3, h⟩ := bd_some h
  refine AR.callVN (pc := 30) (As := []) (st := []) (ci := 1) dX8_worthUnder_30 ⟨cd_X1_goFreely, im_X1_goFreely, se_X1_goFreely, ini_X1⟩ mn_X8_222 (A1_goFreely 30 grp30 r2 _ h3) ⟨rfl, pd_X1_goFreely⟩ ⟨Nat.le_of_ble_eq_true rfl, Nat.le_of_ble_eq_true rfl⟩ ⟨rfl, rfl⟩ rfl rfl rfl (Nat.le_of_ble_eq_true rfl) ?_
  refine AR.aload_n (pc := 33) (j := 0) dX8_worthUnder_33 rfl rfl ?_
  refine AR.getf (pc := 34) (ci := 8) (j := 8) (d := 37 + 2) (v := .ref 37) (T := TX8) dX8_worthUnder_34 rfl rfl rfl (by decide) (fun w hw => wsU_in (uw_X8 w hw)) (wsU_in fl_X8_82) rfl ?_
  refine AR.getfN (pc := 37) (ci := 1) (j := 9) (d := 1) (v := .long (r3.2 37 9)) (T := TX1) dX8_worthUnder_37 rfl rfl rfl (by decide) (fun w hw => wsU_in (uw_X1 w hw)) fn_X8_185 rfl ?_
  obtain ⟨r4, h4, h⟩ := bd_some h
  refine AR.callS (pc := 40) (As := [.long (r3.2 37 9)]) (st := []) dX8_worthUnder_40 ⟨cd_X8_worthToAll, sm_X8_worthToAll, ini_X8⟩ ml_X8_237 (A8_worthToAll (r3.2 37 9) r3 _ h4) ⟨rfl, pd_X8_worthToAll⟩ ⟨Nat.le_of_ble_eq_true rfl, Nat.le_of_ble_eq_true rfl⟩ ⟨rfl, rfl⟩ rfl (Nat.le_of_ble_eq_true rfl) ?_
  exact AR.iret (pc := 43) rfl dX8_worthUnder_43 (hrI (Option.some.inj h))
set_option maxHeartbeats 4000000 in
set_option maxRecDepth 100000 in
theorem A8_byLaw_73 {l : Launch} (k47 : Int32 × Int32 × Int32 × HS → Option (Int32 × HS)) (x2 : Int32) (x3 : Int32) (x4 : Int32) (hk47 : ∀ (p : Int32 × Int32 × Int32 × HS) (r : Int32 × HS), k47 p = some r → AR l RX8 cX8_byLaw 6 (some .int) (wsU yX8_byLaw cX8_byLaw 6 (some .int)) rm8_byLaw SC 47 [(0, .ref 0), (2, .int (p.1)), (3, .int (p.2.1)), (4, .int (p.2.2.1))] [] p.2.2.2 (some (.int r.1), r.2)) (σ : HS) (r : Int32 × HS) (h : f8_byLaw_73 k47 x2 x3 x4 σ = some r) : AR l RX8 cX8_byLaw 6 (some .int) (wsU yX8_byLaw cX8_byLaw 6 (some .int)) rm8_byLaw SC 73 [(0, .ref 0), (2, .int x2), (3, .int x3), (4, .int x4)] [] σ (some (.int r.1), r.2) := by
  unfold f8_byLaw_73 at h
  refine AR.iinc (pc := 73) (j := 3) (v := (x4 + 1)) (L2 := [(4, .int (x4 + 1)), (0, .ref 0), (2, .int x2), (3, .int x3)]) dX8_byLaw_73 rfl rfl (by decide) rfl ?_
  refine AR.goto (pc := 76) (tgt := 47) dX8_byLaw_76 (by decide) ?_
  exact AR.pick [1, 2, 3, 0] rfl (hk47 (x2, x3, (x4 + 1), σ) r h)
set_option maxHeartbeats 4000000 in
set_option maxRecDepth 100000 in
theorem A8_byLaw_47_b {l : Launch} (k47 : Int32 × Int32 × Int32 × HS → Option (Int32 × HS)) (x2 : Int32) (x3 : Int32) (x4 : Int32) (hk47 : ∀ (p : Int32 × Int32 × Int32 × HS) (r : Int32 × HS), k47 p = some r → AR l RX8 cX8_byLaw 6 (some .int) (wsU yX8_byLaw cX8_byLaw 6 (some .int)) rm8_byLaw SC 47 [(0, .ref 0), (2, .int (p.1)), (3, .int (p.2.1)), (4, .int (p.2.2.1))] [] p.2.2.2 (some (.int r.1), r.2)) (σ : HS) (r : Int32 × HS) (h : f8_byLaw_47_b k47 x2 x3 x4 σ = some r) : AR l RX8 cX8_byLaw 6 (some .int) (wsU yX8_byLaw cX8_byLaw 6 (some .int)) rm8_byLaw SC 47 [(0, .ref 0), (2, .int x2), (3, .int x3), (4, .int x4)] [] σ (some (.int r.1), r.2) := by
  unfold f8_byLaw_47_b at h
  refine AR.iload (pc := 47) (j := 3) dX8_byLaw_47 rfl ?_
  refine AR.iconst (pc := 49) (v := 4) dX8_byLaw_49 (by decide) ?_
  refine AR.icmp_ge (pc := 50) (tgt := 79) dX8_byLaw_50 (by decide) (fun c1 => ?_) (fun c1 => ?_)
  · replace h := ite_t c1 h
    refine AR.iload_n (pc := 79) (j := 1) dX8_byLaw_79 rfl rfl ?_
    exact AR.iret (pc := 80) rfl dX8_byLaw_80 (hrI (Option.some.inj h))
  · replace h := ite_f c1 h
    refine AR.aload_n (pc := 53) (j := 0) dX8_byLaw_53 rfl rfl ?_
    refine AR.iload (pc := 54) (j := 3) dX8_byLaw_54 rfl ?_
    obtain ⟨r2, h2, h⟩ := bd_some h
    refine AR.callV (pc := 56) (As := [.int x4]) (st := []) (ci := 8) dX8_byLaw_56 ⟨cd_X8_worthUnder, im_X8_worthUnder, se_X8_worthUnder, ini_X8⟩ ml_X8_287 (A8_worthUnder x4 σ _ h2) ⟨rfl, pd_X8_worthUnder⟩ ⟨Nat.le_of_ble_eq_true rfl, Nat.le_of_ble_eq_true rfl⟩ ⟨rfl, rfl⟩ rfl rfl rfl (Nat.le_of_ble_eq_true rfl) ?_
    refine AR.istore (pc := 59) (L2 := [(5, .int (r2.1)), (0, .ref 0), (2, .int x2), (3, .int x3), (4, .int x4)]) dX8_byLaw_59 (by decide) rfl ?_
    refine AR.iload (pc := 61) (j := 0) dX8_byLaw_61 rfl ?_
    refine AR.iload_n (pc := 63) (j := 3) dX8_byLaw_63 rfl rfl ?_
    refine AR.icmp_le (pc := 64) (tgt := 73) dX8_byLaw_64 (by decide) (fun c3 => ?_) (fun c3 => ?_)
    · replace h := ite_t c3 h
      exact AR.pick [1, 2, 3, 4] rfl (A8_byLaw_73 k47 x2 x3 x4 hk47 (r2.2) r h)
    · replace h := ite_f c3 h
      refine AR.iload (pc := 67) (j := 0) dX8_byLaw_67 rfl ?_
      refine AR.istore_n (pc := 69) (L2 := [(3, .int (r2.1)), (5, .int (r2.1)), (0, .ref 0), (2, .int x2), (4, .int x4)]) dX8_byLaw_69 rfl (by decide) rfl ?_
      refine AR.iload (pc := 70) (j := 4) dX8_byLaw_70 rfl ?_
      refine AR.istore_n (pc := 72) (L2 := [(2, .int x4), (3, .int (r2.1)), (5, .int (r2.1)), (0, .ref 0), (4, .int x4)]) dX8_byLaw_72 rfl (by decide) rfl ?_
      exact AR.pick [3, 0, 1, 4] rfl (A8_byLaw_73 k47 x4 (r2.1) x4 hk47 (r2.2) r h)
theorem A8_byLaw_47 {l : Launch} (p : Int32 × Int32 × Int32 × HS) (r : Int32 × HS) (h : f8_byLaw_47 p = some r) : AR l RX8 cX8_byLaw 6 (some .int) (wsU yX8_byLaw cX8_byLaw 6 (some .int)) rm8_byLaw SC 47 [(0, .ref 0), (2, .int (p.1)), (3, .int (p.2.1)), (4, .int (p.2.2.1))] [] p.2.2.2 (some (.int r.1), r.2) := by
  unfold f8_byLaw_47 at h
  exact wloop_run (body := fun k47 p => f8_byLaw_47_b k47 p.1 p.2.1 p.2.2.1 p.2.2.2) (Q := fun p r => AR l RX8 cX8_byLaw 6 (some .int) (wsU yX8_byLaw cX8_byLaw 6 (some .int)) rm8_byLaw SC 47 [(0, .ref 0), (2, .int (p.1)), (3, .int (p.2.1)), (4, .int (p.2.2.1))] [] p.2.2.2 (some (.int r.1), r.2)) (fun k47 hk47 p r h => A8_byLaw_47_b k47 p.1 p.2.1 p.2.2.1 hk47 p.2.2.2 r h) fuelN p r h
set_option maxHeartbeats 4000000 in
set_option maxRecDepth 100000 in
theorem A8_byLaw {l : Launch} (x1 : Int32) (σ : HS) (r : Int32 × HS) (h : f8_byLaw x1 σ = some r) : MA l yX8_byLaw (wsU yX8_byLaw cX8_byLaw 6 (some .int)) rm8_byLaw SC [.ref 0, .int x1] σ (some (.int r.1), r.2) := by
  refine MA.of (L := [(0, .ref 0), (1, .int x1)]) pn_X8_byLaw rfl (fun _ => Nat.le_of_ble_eq_true rfl) (fun _ => rfl) ?_
  unfold f8_byLaw at h
  refine AR.iload_n (pc := 0) (j := 1) dX8_byLaw_0 rfl rfl ?_
  refine AR.iconst (pc := 1) (v := (-1)) dX8_byLaw_1 (by decide) ?_
  refine AR.icmp_lt (pc := 2) (tgt := 10) dX8_byLaw_2 (by decide) (fun c1 => ?_) (fun c1 => ?_)
  · replace h := ite_t c1 h
    refine AR.bipush (pc := 10) (v := (-2)) dX8_byLaw_10 (by decide) ?_
    exact AR.iret (pc := 12) rfl dX8_byLaw_12 (hrI (Option.some.inj h))
  · replace h := ite_f c1 h
    refine AR.iload_n (pc := 5) (j := 1) dX8_byLaw_5 rfl rfl ?_
    refine AR.iconst (pc := 6) (v := 4) dX8_byLaw_6 (by decide) ?_
    refine AR.icmp_lt (pc := 7) (tgt := 13) dX8_byLaw_7 (by decide) (fun c2 => ?_) (fun c2 => ?_)
    · replace h := ite_t c2 h
      refine AR.aload_n (pc := 13) (j := 0) dX8_byLaw_13 rfl rfl ?_
      refine AR.getf (pc := 14) (ci := 8) (j := 1) (d := 5 + 2) (v := .ref 5) (T := TX8) dX8_byLaw_14 rfl rfl rfl (by decide) (fun w hw => wsU_in (uw_X8 w hw)) (wsU_in fl_X8_32) rfl ?_
      refine AR.getfN (pc := 17) (ci := 4) (j := 0) (d := 0) (v := .int (σ.1 5 0)) (T := TX4) dX8_byLaw_17 rfl rfl rfl (by decide) (fun w hw => wsU_in (uw_X4 w hw)) fn_X8_132 rfl ?_
      refine AR.if_ne (pc := 20) (tgt := 26) dX8_byLaw_20 (by decide) (fun c3 => ?_) (fun c3 => ?_)
      · replace h := ite_f c3 h
        refine AR.iload_n (pc := 26) (j := 1) dX8_byLaw_26 rfl rfl ?_
        refine AR.if_lt (pc := 27) (tgt := 36) dX8_byLaw_27 (by decide) (fun c4 => ?_) (fun c4 => ?_)
        · replace h := ite_t c4 h
          refine AR.iconst (pc := 36) (v := 0) dX8_byLaw_36 (by decide) ?_
          refine AR.istore_n (pc := 37) (L2 := [(2, .int 0), (0, .ref 0), (1, .int x1)]) dX8_byLaw_37 rfl (by decide) rfl ?_
          refine AR.aload_n (pc := 38) (j := 1) dX8_byLaw_38 rfl rfl ?_
          refine AR.iconst (pc := 39) (v := 0) dX8_byLaw_39 (by decide) ?_
          obtain ⟨r5, h5, h⟩ := bd_some h
          refine AR.callV (pc := 40) (As := [.int 0]) (st := []) (ci := 8) dX8_byLaw_40 ⟨cd_X8_worthUnder, im_X8_worthUnder, se_X8_worthUnder, ini_X8⟩ ml_X8_287 (A8_worthUnder 0 σ _ h5) ⟨rfl, pd_X8_worthUnder⟩ ⟨Nat.le_of_ble_eq_true rfl, Nat.le_of_ble_eq_true rfl⟩ ⟨rfl, rfl⟩ rfl rfl rfl (Nat.le_of_ble_eq_true rfl) ?_
          refine AR.istore_n (pc := 43) (L2 := [(3, .int (r5.1)), (2, .int 0), (0, .ref 0), (1, .int x1)]) dX8_byLaw_43 rfl (by decide) rfl ?_
          refine AR.iconst (pc := 44) (v := 1) dX8_byLaw_44 (by decide) ?_
          refine AR.istore (pc := 45) (L2 := [(4, .int 1), (3, .int (r5.1)), (2, .int 0), (0, .ref 0), (1, .int x1)]) dX8_byLaw_45 (by decide) rfl ?_
          exact AR.pick [3, 2, 1, 0] rfl (A8_byLaw_47 (0, r5.1, 1, r5.2) r h)
        · replace h := ite_f c4 h
          refine AR.aload_n (pc := 30) (j := 0) dX8_byLaw_30 rfl rfl ?_
          refine AR.iload_n (pc := 31) (j := 1) dX8_byLaw_31 rfl rfl ?_
          obtain ⟨r6, h6, h⟩ := bd_some h
          refine AR.callV (pc := 32) (As := [.int x1]) (st := []) (ci := 8) dX8_byLaw_32 ⟨cd_X8_worthUnder, im_X8_worthUnder, se_X8_worthUnder, ini_X8⟩ ml_X8_287 (A8_worthUnder x1 σ _ h6) ⟨rfl, pd_X8_worthUnder⟩ ⟨Nat.le_of_ble_eq_true rfl, Nat.le_of_ble_eq_true rfl⟩ ⟨rfl, rfl⟩ rfl rfl rfl (Nat.le_of_ble_eq_true rfl) ?_
          exact AR.iret (pc := 35) rfl dX8_byLaw_35 (hrI (Option.some.inj h))
      · replace h := ite_t c3 h
        refine AR.bipush (pc := 23) (v := (-3)) dX8_byLaw_23 (by decide) ?_
        exact AR.iret (pc := 25) rfl dX8_byLaw_25 (hrI (Option.some.inj h))
    · replace h := ite_f c2 h
      refine AR.bipush (pc := 10) (v := (-2)) dX8_byLaw_10 (by decide) ?_
      exact AR.iret (pc := 12) rfl dX8_byLaw_12 (hrI (Option.some.inj h))
set_option maxHeartbeats 4000000 in
set_option maxRecDepth 100000 in
theorem A8_commonPart_7_b {l : Launch} (k7 : Int32 × Int32 × Int32 × HS → Option (Int32 × HS)) (x2 : Int32) (x3 : Int32) (x4 : Int32) (hk7 : ∀ (p : Int32 × Int32 × Int32 × HS) (r : Int32 × HS), k7 p = some r → AR l RX8 cX8_commonPart 6 (some .int) (wsU yX8_commonPart cX8_commonPart 6 (some .int)) rm8_commonPart SC 7 [(2, .int (p.1)), (3, .int (p.2.1)), (4, .int (p.2.2.1))] [] p.2.2.2 (some (.int r.1), r.2)) (σ : HS) (r : Int32 × HS) (h : f8_commonPart_7_b k7 x2 x3 x4 σ = some r) : AR l RX8 cX8_commonPart 6 (some .int) (wsU yX8_commonPart cX8_commonPart 6 (some .int)) rm8_commonPart SC 7 [(2, .int x2), (3, .int x3), (4, .int x4)] [] σ (some (.int r.1), r.2) := by
  unfold f8_commonPart_7_b at h
  refine AR.iload (pc := 7) (j := 2) dX8_commonPart_7 rfl ?_
  refine AR.bipush (pc := 9) (v := 99) dX8_commonPart_9 (by decide) ?_
  refine AR.icmp_ge (pc := 11) (tgt := 34) dX8_commonPart_11 (by decide) (fun c1 => ?_) (fun c1 => ?_)
  · replace h := ite_t c1 h
    refine AR.iload_n (pc := 34) (j := 0) dX8_commonPart_34 rfl rfl ?_
    exact AR.iret (pc := 35) rfl dX8_commonPart_35 (hrI (Option.some.inj h))
  · replace h := ite_f c1 h
    refine AR.iload_n (pc := 14) (j := 1) dX8_commonPart_14 rfl rfl ?_
    refine AR.if_le (pc := 15) (tgt := 34) dX8_commonPart_15 (by decide) (fun c2 => ?_) (fun c2 => ?_)
    · replace h := ite_t c2 h
      refine AR.iload_n (pc := 34) (j := 0) dX8_commonPart_34 rfl rfl ?_
      exact AR.iret (pc := 35) rfl dX8_commonPart_35 (hrI (Option.some.inj h))
    · replace h := ite_f c2 h
      refine AR.iload_n (pc := 18) (j := 0) dX8_commonPart_18 rfl rfl ?_
      refine AR.iload_n (pc := 19) (j := 1) dX8_commonPart_19 rfl rfl ?_
      obtain ⟨c3, h⟩ := gn_some h
      refine AR.irem (pc := 20) dX8_commonPart_20 c3 ?_
      refine AR.istore (pc := 21) (L2 := [(5, .int (x2 - x2 / x3 * x3)), (2, .int x2), (3, .int x3), (4, .int x4)]) dX8_commonPart_21 (by decide) rfl ?_
      refine AR.iload_n (pc := 23) (j := 2) dX8_commonPart_23 rfl rfl ?_
      refine AR.istore_n (pc := 24) (L2 := [(2, .int x3), (5, .int (x2 - x2 / x3 * x3)), (3, .int x3), (4, .int x4)]) dX8_commonPart_24 rfl (by decide) rfl ?_
      refine AR.iload (pc := 25) (j := 1) dX8_commonPart_25 rfl ?_
      refine AR.istore_n (pc := 27) (L2 := [(3, .int (x2 - x2 / x3 * x3)), (2, .int x3), (5, .int (x2 - x2 / x3 * x3)), (4, .int x4)]) dX8_commonPart_27 rfl (by decide) rfl ?_
      refine AR.iinc (pc := 28) (j := 3) (v := (x4 + 1)) (L2 := [(4, .int (x4 + 1)), (3, .int (x2 - x2 / x3 * x3)), (2, .int x3), (5, .int (x2 - x2 / x3 * x3))]) dX8_commonPart_28 rfl rfl (by decide) rfl ?_
      refine AR.goto (pc := 31) (tgt := 7) dX8_commonPart_31 (by decide) ?_
      exact AR.pick [2, 1, 0] rfl (hk7 (x3, (x2 - x2 / x3 * x3), (x4 + 1), σ) r h)
theorem A8_commonPart_7 {l : Launch} (p : Int32 × Int32 × Int32 × HS) (r : Int32 × HS) (h : f8_commonPart_7 p = some r) : AR l RX8 cX8_commonPart 6 (some .int) (wsU yX8_commonPart cX8_commonPart 6 (some .int)) rm8_commonPart SC 7 [(2, .int (p.1)), (3, .int (p.2.1)), (4, .int (p.2.2.1))] [] p.2.2.2 (some (.int r.1), r.2) := by
  unfold f8_commonPart_7 at h
  exact wloop_run (body := fun k7 p => f8_commonPart_7_b k7 p.1 p.2.1 p.2.2.1 p.2.2.2) (Q := fun p r => AR l RX8 cX8_commonPart 6 (some .int) (wsU yX8_commonPart cX8_commonPart 6 (some .int)) rm8_commonPart SC 7 [(2, .int (p.1)), (3, .int (p.2.1)), (4, .int (p.2.2.1))] [] p.2.2.2 (some (.int r.1), r.2)) (fun k7 hk7 p r h => A8_commonPart_7_b k7 p.1 p.2.1 p.2.2.1 hk7 p.2.2.2 r h) fuelN p r h
set_option maxHeartbeats 4000000 in
set_option maxRecDepth 100000 in
theorem A8_commonPart {l : Launch} (x0 : Int32) (x1 : Int32) (σ : HS) (r : Int32 × HS) (h : f8_commonPart x0 x1 σ = some r) : MA l yX8_commonPart (wsU yX8_commonPart cX8_commonPart 6 (some .int)) rm8_commonPart SC [.int x0, .int x1] σ (some (.int r.1), r.2) := by
  refine MA.of (L := [(0, .int x0), (1, .int x1)]) pn_X8_commonPart rfl (fun _ => Nat.le_of_ble_eq_true rfl) (fun _ => rfl) ?_
  unfold f8_commonPart at h
  refine AR.iload_n (pc := 0) (j := 0) dX8_commonPart_0 rfl rfl ?_
  refine AR.istore_n (pc := 1) (L2 := [(2, .int x0), (0, .int x0), (1, .int x1)]) dX8_commonPart_1 rfl (by decide) rfl ?_
  refine AR.iload_n (pc := 2) (j := 2) dX8_commonPart_2 rfl rfl ?_
  refine AR.istore_n (pc := 3) (L2 := [(3, .int x1), (2, .int x0), (0, .int x0), (1, .int x1)]) dX8_commonPart_3 rfl (by decide) rfl ?_
  refine AR.iconst (pc := 4) (v := 0) dX8_commonPart_4 (by decide) ?_
  refine AR.istore (pc := 5) (L2 := [(4, .int 0), (3, .int x1), (2, .int x0), (0, .int x0), (1, .int x1)]) dX8_commonPart_5 (by decide) rfl ?_
  exact AR.pick [2, 1, 0] rfl (A8_commonPart_7 (x0, x1, 0, σ) r h)
set_option maxHeartbeats 4000000 in
set_option maxRecDepth 100000 in
theorem A8_share_20 {l : Launch} (σ : HS) (r : Int64 × HS) (h : f8_share_20 σ = some r) : AR l RX8 cX8_share 6 (some .long) (wsU yX8_share cX8_share 6 (some .long)) rm8_share SC 20 [] [] σ (some (.long r.1), r.2) := by
  unfold f8_share_20 at h
  refine AR.ldc2 (pc := 20) (v := (-9223372036854775808)) dX8_share_20 (wsU_in kl_X8_247) ?_
  exact AR.lret (pc := 23) rfl dX8_share_23 (hrL (Option.some.inj h))
set_option maxHeartbeats 4000000 in
set_option maxRecDepth 100000 in
theorem A8_share_24 {l : Launch} (x1 : Int32) (x2 : Int32) (σ : HS) (r : Int64 × HS) (h : f8_share_24 x1 x2 σ = some r) : AR l RX8 cX8_share 6 (some .long) (wsU yX8_share cX8_share 6 (some .long)) rm8_share SC 24 [(0, .ref 0), (1, .int x1), (2, .int x2)] [] σ (some (.long r.1), r.2) := by
  unfold f8_share_24 at h
  refine AR.aload_n (pc := 24) (j := 0) dX8_share_24 rfl rfl ?_
  obtain ⟨r1, h1, h⟩ := bd_some h
  refine AR.callV (pc := 25) (As := []) (st := []) (ci := 8) dX8_share_25 ⟨cd_X8_planAhead, im_X8_planAhead, se_X8_planAhead, ini_X8⟩ ml_X8_216 (A8_planAhead σ _ h1) ⟨rfl, pd_X8_planAhead⟩ ⟨Nat.le_of_ble_eq_true rfl, Nat.le_of_ble_eq_true rfl⟩ ⟨rfl, rfl⟩ rfl rfl rfl (Nat.le_of_ble_eq_true rfl) ?_
  refine AR.aload_n (pc := 28) (j := 0) dX8_share_28 rfl rfl ?_
  refine AR.getf (pc := 29) (ci := 8) (j := 5) (d := 27 + 2) (v := .ref 27) (T := TX8) dX8_share_29 rfl rfl rfl (by decide) (fun w hw => wsU_in (uw_X8 w hw)) (wsU_in fl_X8_72) rfl ?_
  obtain ⟨r2, h2, h⟩ := bd_some h
  refine AR.callVN (pc := 32) (As := []) (st := []) (ci := 1) dX8_share_32 ⟨cd_X1_goFreely, im_X1_goFreely, se_X1_goFreely, ini_X1⟩ mn_X8_222 (A1_goFreely 20 grp20 r1 _ h2) ⟨rfl, pd_X1_goFreely⟩ ⟨Nat.le_of_ble_eq_true rfl, Nat.le_of_ble_eq_true rfl⟩ ⟨rfl, rfl⟩ rfl rfl rfl (Nat.le_of_ble_eq_true rfl) ?_
  refine AR.aload_n (pc := 35) (j := 0) dX8_share_35 rfl rfl ?_
  refine AR.getf (pc := 36) (ci := 8) (j := 5) (d := 27 + 2) (v := .ref 27) (T := TX8) dX8_share_36 rfl rfl rfl (by decide) (fun w hw => wsU_in (uw_X8 w hw)) (wsU_in fl_X8_72) rfl ?_
  refine AR.iload_n (pc := 39) (j := 1) dX8_share_39 rfl rfl ?_
  obtain ⟨r3, h3, h⟩ := bd_some h
  refine AR.callVN (pc := 40) (As := [.int x1]) (st := []) (ci := 1) dX8_share_40 ⟨cd_X1_runAwayBy, im_X1_runAwayBy, se_X1_runAwayBy, ini_X1⟩ mn_X8_293 (A1_runAwayBy x1 r2 _ h3) ⟨rfl, pd_X1_runAwayBy⟩ ⟨Nat.le_of_ble_eq_true rfl, Nat.le_of_ble_eq_true rfl⟩ ⟨rfl, rfl⟩ rfl rfl rfl (Nat.le_of_ble_eq_true rfl) ?_
  refine AR.istore_n (pc := 43) (L2 := [(3, .int (r3.1)), (0, .ref 0), (1, .int x1), (2, .int x2)]) dX8_share_43 rfl (by decide) rfl ?_
  refine AR.aload_n (pc := 44) (j := 1) dX8_share_44 rfl rfl ?_
  refine AR.getf (pc := 45) (ci := 8) (j := 1) (d := 5 + 2) (v := .ref 5) (T := TX8) dX8_share_45 rfl rfl rfl (by decide) (fun w hw => wsU_in (uw_X8 w hw)) (wsU_in fl_X8_32) rfl ?_
  refine AR.getfN (pc := 48) (ci := 4) (j := 1) (d := 0) (v := .int ((r3.2).1 5 1)) (T := TX4) dX8_share_48 rfl rfl rfl (by decide) (fun w hw => wsU_in (uw_X4 w hw)) fn_X8_213 rfl ?_
  refine AR.istore (pc := 51) (L2 := [(4, .int ((r3.2).1 5 1)), (3, .int (r3.1)), (0, .ref 0), (1, .int x1), (2, .int x2)]) dX8_share_51 (by decide) rfl ?_
  refine AR.iload_n (pc := 53) (j := 1) dX8_share_53 rfl rfl ?_
  refine AR.iload (pc := 54) (j := 0) dX8_share_54 rfl ?_
  obtain ⟨r4, h4, h⟩ := bd_some h
  refine AR.callS (pc := 56) (As := [.int (r3.1), .int ((r3.2).1 5 1)]) (st := []) dX8_share_56 ⟨cd_X8_commonPart, sm_X8_commonPart, ini_X8⟩ ml_X8_296 (A8_commonPart (r3.1) ((r3.2).1 5 1) (r3.2) _ h4) ⟨rfl, pd_X8_commonPart⟩ ⟨Nat.le_of_ble_eq_true rfl, Nat.le_of_ble_eq_true rfl⟩ ⟨rfl, rfl⟩ rfl (Nat.le_of_ble_eq_true rfl) ?_
  refine AR.istore (pc := 59) (L2 := [(5, .int (r4.1)), (4, .int ((r3.2).1 5 1)), (3, .int (r3.1)), (0, .ref 0), (1, .int x1), (2, .int x2)]) dX8_share_59 (by decide) rfl ?_
  refine AR.iload (pc := 61) (j := 0) dX8_share_61 rfl ?_
  refine AR.if_gt (pc := 63) (tgt := 70) dX8_share_63 (by decide) (fun c5 => ?_) (fun c5 => ?_)
  · replace h := ite_t c5 h
    refine AR.iload_n (pc := 70) (j := 5) dX8_share_70 rfl rfl ?_
    refine AR.if_ne (pc := 71) (tgt := 82) dX8_share_71 (by decide) (fun c6 => ?_) (fun c6 => ?_)
    · replace h := ite_f c6 h
      refine AR.iload (pc := 82) (j := 1) dX8_share_82 rfl ?_
      refine AR.iload (pc := 84) (j := 0) dX8_share_84 rfl ?_
      obtain ⟨c7, h⟩ := gn_some h
      refine AR.idiv (pc := 86) dX8_share_86 c7 ?_
      refine AR.i2l (pc := 87) dX8_share_87 ?_
      exact AR.lret (pc := 88) rfl dX8_share_88 (hrL (Option.some.inj h))
    · replace h := ite_t c6 h
      refine AR.iload_n (pc := 74) (j := 2) dX8_share_74 rfl rfl ?_
      refine AR.iload (pc := 75) (j := 0) dX8_share_75 rfl ?_
      obtain ⟨c8, h⟩ := gn_some h
      refine AR.idiv (pc := 77) dX8_share_77 c8 ?_
      refine AR.i2l (pc := 78) dX8_share_78 ?_
      refine AR.goto (pc := 79) (tgt := 88) dX8_share_79 (by decide) ?_
      exact AR.lret (pc := 88) rfl dX8_share_88 (hrL (Option.some.inj h))
  · replace h := ite_f c5 h
    refine AR.ldc2 (pc := 66) (v := (-9223372036854775808)) dX8_share_66 (wsU_in kl_X8_247) ?_
    exact AR.lret (pc := 69) rfl dX8_share_69 (hrL (Option.some.inj h))
set_option maxHeartbeats 4000000 in
set_option maxRecDepth 100000 in
theorem A8_share {l : Launch} (x1 : Int32) (x2 : Int32) (σ : HS) (r : Int64 × HS) (h : f8_share x1 x2 σ = some r) : MA l yX8_share (wsU yX8_share cX8_share 6 (some .long)) rm8_share SC [.ref 0, .int x1, .int x2] σ (some (.long r.1), r.2) := by
  refine MA.of (L := [(0, .ref 0), (1, .int x1), (2, .int x2)]) pn_X8_share rfl (fun _ => Nat.le_of_ble_eq_true rfl) (fun _ => rfl) ?_
  unfold f8_share at h
  refine AR.aload_n (pc := 0) (j := 0) dX8_share_0 rfl rfl ?_
  refine AR.getf (pc := 1) (ci := 8) (j := 1) (d := 5 + 2) (v := .ref 5) (T := TX8) dX8_share_1 rfl rfl rfl (by decide) (fun w hw => wsU_in (uw_X8 w hw)) (wsU_in fl_X8_32) rfl ?_
  refine AR.iload_n (pc := 4) (j := 1) dX8_share_4 rfl rfl ?_
  obtain ⟨r1, h1, h⟩ := bd_some h
  refine AR.callVN (pc := 5) (As := [.int x1]) (st := []) (ci := 4) dX8_share_5 ⟨cd_X4_has, im_X4_has, se_X4_has, ini_X4⟩ mn_X8_135 (A4_has x1 σ _ h1) ⟨rfl, pd_X4_has⟩ ⟨Nat.le_of_ble_eq_true rfl, Nat.le_of_ble_eq_true rfl⟩ ⟨rfl, rfl⟩ rfl rfl rfl (Nat.le_of_ble_eq_true rfl) ?_
  refine AR.if_eq (pc := 8) (tgt := 20) dX8_share_8 (by decide) (fun c2 => ?_) (fun c2 => ?_)
  · replace h := ite_t c2 h
    exact AR.pick [] rfl (A8_share_20 (r1.2) r h)
  · replace h := ite_f c2 h
    refine AR.iload_n (pc := 11) (j := 2) dX8_share_11 rfl rfl ?_
    refine AR.if_eq (pc := 12) (tgt := 24) dX8_share_12 (by decide) (fun c3 => ?_) (fun c3 => ?_)
    · replace h := ite_t c3 h
      exact AR.pick [0, 1, 2] rfl (A8_share_24 x1 x2 (r1.2) r h)
    · replace h := ite_f c3 h
      refine AR.iload_n (pc := 15) (j := 2) dX8_share_15 rfl rfl ?_
      refine AR.iconst (pc := 16) (v := 1) dX8_share_16 (by decide) ?_
      refine AR.icmp_eq (pc := 17) (tgt := 24) dX8_share_17 (by decide) (fun c4 => ?_) (fun c4 => ?_)
      · replace h := ite_t c4 h
        exact AR.pick [0, 1, 2] rfl (A8_share_24 x1 x2 (r1.2) r h)
      · replace h := ite_f c4 h
        exact AR.pick [] rfl (A8_share_20 (r1.2) r h)
set_option maxHeartbeats 4000000 in
set_option maxRecDepth 100000 in
theorem A8_sheet_26 {l : Launch} (σ : HS) (r : Int32 × HS) (h : f8_sheet_26 σ = some r) : AR l RX8 cX8_sheet 4 (some .int) (wsU yX8_sheet cX8_sheet 4 (some .int)) rm8_sheet SC 26 [(0, .ref 0)] [] σ (some (.int r.1), r.2) := by
  unfold f8_sheet_26 at h
  refine AR.aload_n (pc := 26) (j := 0) dX8_sheet_26 rfl rfl ?_
  refine AR.bipush (pc := 27) (v := (-2)) dX8_sheet_27 (by decide) ?_
  obtain ⟨r1, h1, h⟩ := bd_some h
  refine AR.callV (pc := 29) (As := [.int (-2)]) (st := []) (ci := 8) dX8_sheet_29 ⟨cd_X8_told, im_X8_told, se_X8_told, ini_X8⟩ ml_X8_109 (A8_told (-2) σ _ h1) ⟨rfl, pd_X8_told⟩ ⟨Nat.le_of_ble_eq_true rfl, Nat.le_of_ble_eq_true rfl⟩ ⟨rfl, rfl⟩ rfl rfl rfl (Nat.le_of_ble_eq_true rfl) ?_
  exact AR.iret (pc := 32) rfl dX8_sheet_32 (hrI (Option.some.inj h))
set_option maxHeartbeats 4000000 in
set_option maxRecDepth 100000 in
theorem A8_sheet {l : Launch} (x1 : Int32) (x2 : Int32) (x3 : Int32) (σ : HS) (r : Int32 × HS) (h : f8_sheet x1 x2 x3 σ = some r) : MA l yX8_sheet (wsU yX8_sheet cX8_sheet 4 (some .int)) rm8_sheet SC [.ref 0, .int x1, .int x2, .int x3] σ (some (.int r.1), r.2) := by
  refine MA.of (L := [(0, .ref 0), (1, .int x1), (2, .int x2), (3, .int x3)]) pn_X8_sheet rfl (fun _ => Nat.le_of_ble_eq_true rfl) (fun _ => rfl) ?_
  unfold f8_sheet at h
  refine AR.iload_n (pc := 0) (j := 1) dX8_sheet_0 rfl rfl ?_
  obtain ⟨r1, h1, h⟩ := bd_some h
  refine AR.callSN (pc := 1) (As := [.int x1]) (st := []) dX8_sheet_1 ⟨cd_X7_isSheet, sm_X7_isSheet, ini_X7⟩ mn_X8_299 (A7_isSheet x1 σ _ h1) pd_X7_isSheet ⟨Nat.le_of_ble_eq_true rfl, Nat.le_of_ble_eq_true rfl⟩ ⟨rfl, rfl⟩ rfl (Nat.le_of_ble_eq_true rfl) ?_
  refine AR.if_ne (pc := 4) (tgt := 13) dX8_sheet_4 (by decide) (fun c2 => ?_) (fun c2 => ?_)
  · replace h := ite_f c2 h
    refine AR.iload_n (pc := 13) (j := 2) dX8_sheet_13 rfl rfl ?_
    obtain ⟨r3, h3, h⟩ := bd_some h
    refine AR.callSN (pc := 14) (As := [.int x2]) (st := []) dX8_sheet_14 ⟨cd_X7_isLane, sm_X7_isLane, ini_X7⟩ mn_X8_302 (A7_isLane x2 (r1.2) _ h3) pd_X7_isLane ⟨Nat.le_of_ble_eq_true rfl, Nat.le_of_ble_eq_true rfl⟩ ⟨rfl, rfl⟩ rfl (Nat.le_of_ble_eq_true rfl) ?_
    refine AR.if_eq (pc := 17) (tgt := 26) dX8_sheet_17 (by decide) (fun c4 => ?_) (fun c4 => ?_)
    · replace h := ite_t c4 h
      exact AR.pick [0] rfl (A8_sheet_26 (r3.2) r h)
    · replace h := ite_f c4 h
      refine AR.iload_n (pc := 20) (j := 3) dX8_sheet_20 rfl rfl ?_
      refine AR.bipush (pc := 21) (v := 100) dX8_sheet_21 (by decide) ?_
      refine AR.icmp_le (pc := 23) (tgt := 33) dX8_sheet_23 (by decide) (fun c5 => ?_) (fun c5 => ?_)
      · replace h := ite_t c5 h
        refine AR.iload_n (pc := 33) (j := 3) dX8_sheet_33 rfl rfl ?_
        refine AR.if_ge (pc := 34) (tgt := 44) dX8_sheet_34 (by decide) (fun c6 => ?_) (fun c6 => ?_)
        · replace h := ite_t c6 h
          refine AR.aload_n (pc := 44) (j := 0) dX8_sheet_44 rfl rfl ?_
          refine AR.getf (pc := 45) (ci := 8) (j := 0) (d := 1 + 2) (v := .ref 1) (T := TX8) dX8_sheet_45 rfl rfl rfl (by decide) (fun w hw => wsU_in (uw_X8 w hw)) (wsU_in fl_X8_25) rfl ?_
          refine AR.iload_n (pc := 48) (j := 1) dX8_sheet_48 rfl rfl ?_
          refine AR.iload_n (pc := 49) (j := 2) dX8_sheet_49 rfl rfl ?_
          refine AR.iload_n (pc := 50) (j := 3) dX8_sheet_50 rfl rfl ?_
          obtain ⟨r7, h7, h⟩ := bd_some h
          refine AR.callVN (pc := 51) (As := [.int x1, .int x2, .int x3]) (st := []) (ci := 7) dX8_sheet_51 ⟨cd_X7_renew, im_X7_renew, se_X7_renew, ini_X7⟩ mn_X8_305 (A7_renew x1 x2 x3 (r3.2) _ h7) ⟨rfl, pd_X7_renew⟩ ⟨Nat.le_of_ble_eq_true rfl, Nat.le_of_ble_eq_true rfl⟩ ⟨rfl, rfl⟩ rfl rfl rfl (Nat.le_of_ble_eq_true rfl) ?_
          refine AR.aload_n (pc := 54) (j := 0) dX8_sheet_54 rfl rfl ?_
          refine AR.iconst (pc := 55) (v := 1) dX8_sheet_55 (by decide) ?_
          obtain ⟨r8, h8, h⟩ := bd_some h
          refine AR.callV (pc := 56) (As := [.int 1]) (st := []) (ci := 8) dX8_sheet_56 ⟨cd_X8_told, im_X8_told, se_X8_told, ini_X8⟩ ml_X8_109 (A8_told 1 r7 _ h8) ⟨rfl, pd_X8_told⟩ ⟨Nat.le_of_ble_eq_true rfl, Nat.le_of_ble_eq_true rfl⟩ ⟨rfl, rfl⟩ rfl rfl rfl (Nat.le_of_ble_eq_true rfl) ?_
          exact AR.iret (pc := 59) rfl dX8_sheet_59 (hrI (Option.some.inj h))
        · replace h := ite_f c6 h
          refine AR.aload_n (pc := 37) (j := 0) dX8_sheet_37 rfl rfl ?_
          refine AR.bipush (pc := 38) (v := (-14)) dX8_sheet_38 (by decide) ?_
          obtain ⟨r9, h9, h⟩ := bd_some h
          refine AR.callV (pc := 40) (As := [.int (-14)]) (st := []) (ci := 8) dX8_sheet_40 ⟨cd_X8_told, im_X8_told, se_X8_told, ini_X8⟩ ml_X8_109 (A8_told (-14) (r3.2) _ h9) ⟨rfl, pd_X8_told⟩ ⟨Nat.le_of_ble_eq_true rfl, Nat.le_of_ble_eq_true rfl⟩ ⟨rfl, rfl⟩ rfl rfl rfl (Nat.le_of_ble_eq_true rfl) ?_
          exact AR.iret (pc := 43) rfl dX8_sheet_43 (hrI (Option.some.inj h))
      · replace h := ite_f c5 h
        exact AR.pick [0] rfl (A8_sheet_26 (r3.2) r h)
  · replace h := ite_t c2 h
    refine AR.aload_n (pc := 7) (j := 0) dX8_sheet_7 rfl rfl ?_
    refine AR.iconst (pc := 8) (v := (-1)) dX8_sheet_8 (by decide) ?_
    obtain ⟨r10, h10, h⟩ := bd_some h
    refine AR.callV (pc := 9) (As := [.int (-1)]) (st := []) (ci := 8) dX8_sheet_9 ⟨cd_X8_told, im_X8_told, se_X8_told, ini_X8⟩ ml_X8_109 (A8_told (-1) (r1.2) _ h10) ⟨rfl, pd_X8_told⟩ ⟨Nat.le_of_ble_eq_true rfl, Nat.le_of_ble_eq_true rfl⟩ ⟨rfl, rfl⟩ rfl rfl rfl (Nat.le_of_ble_eq_true rfl) ?_
    exact AR.iret (pc := 12) rfl dX8_sheet_12 (hrI (Option.some.inj h))
set_option maxHeartbeats 4000000 in
set_option maxRecDepth 100000 in
theorem A8_put_47 {l : Launch} (σ : HS) (r : Int32 × HS) (h : f8_put_47 σ = some r) : AR l RX8 cX8_put 4 (some .int) (wsU yX8_put cX8_put 4 (some .int)) rm8_put SC 47 [(0, .ref 0)] [] σ (some (.int r.1), r.2) := by
  unfold f8_put_47 at h
  refine AR.aload_n (pc := 47) (j := 0) dX8_put_47 rfl rfl ?_
  refine AR.bipush (pc := 48) (v := (-13)) dX8_put_48 (by decide) ?_
  obtain ⟨r1, h1, h⟩ := bd_some h
  refine AR.callV (pc := 50) (As := [.int (-13)]) (st := []) (ci := 8) dX8_put_50 ⟨cd_X8_told, im_X8_told, se_X8_told, ini_X8⟩ ml_X8_109 (A8_told (-13) σ _ h1) ⟨rfl, pd_X8_told⟩ ⟨Nat.le_of_ble_eq_true rfl, Nat.le_of_ble_eq_true rfl⟩ ⟨rfl, rfl⟩ rfl rfl rfl (Nat.le_of_ble_eq_true rfl) ?_
  exact AR.iret (pc := 53) rfl dX8_put_53 (hrI (Option.some.inj h))
set_option maxHeartbeats 4000000 in
set_option maxRecDepth 100000 in
theorem A8_put {l : Launch} (x1 : Int32) (x2 : Int32) (x3 : Int32) (σ : HS) (r : Int32 × HS) (h : f8_put x1 x2 x3 σ = some r) : MA l yX8_put (wsU yX8_put cX8_put 4 (some .int)) rm8_put SC [.ref 0, .int x1, .int x2, .int x3] σ (some (.int r.1), r.2) := by
  refine MA.of (L := [(0, .ref 0), (1, .int x1), (2, .int x2), (3, .int x3)]) pn_X8_put rfl (fun _ => Nat.le_of_ble_eq_true rfl) (fun _ => rfl) ?_
  unfold f8_put at h
  refine AR.iload_n (pc := 0) (j := 1) dX8_put_0 rfl rfl ?_
  obtain ⟨r1, h1, h⟩ := bd_some h
  refine AR.callSN (pc := 1) (As := [.int x1]) (st := []) dX8_put_1 ⟨cd_X7_isSheet, sm_X7_isSheet, ini_X7⟩ mn_X8_299 (A7_isSheet x1 σ _ h1) pd_X7_isSheet ⟨Nat.le_of_ble_eq_true rfl, Nat.le_of_ble_eq_true rfl⟩ ⟨rfl, rfl⟩ rfl (Nat.le_of_ble_eq_true rfl) ?_
  refine AR.if_ne (pc := 4) (tgt := 13) dX8_put_4 (by decide) (fun c2 => ?_) (fun c2 => ?_)
  · replace h := ite_f c2 h
    refine AR.aload_n (pc := 13) (j := 0) dX8_put_13 rfl rfl ?_
    refine AR.getf (pc := 14) (ci := 8) (j := 0) (d := 1 + 2) (v := .ref 1) (T := TX8) dX8_put_14 rfl rfl rfl (by decide) (fun w hw => wsU_in (uw_X8 w hw)) (wsU_in fl_X8_25) rfl ?_
    refine AR.iload_n (pc := 17) (j := 1) dX8_put_17 rfl rfl ?_
    obtain ⟨r3, h3, h⟩ := bd_some h
    refine AR.callVN (pc := 18) (As := [.int x1]) (st := []) (ci := 7) dX8_put_18 ⟨cd_X7_isEmpty, im_X7_isEmpty, se_X7_isEmpty, ini_X7⟩ mn_X8_312 (A7_isEmpty x1 (r1.2) _ h3) ⟨rfl, pd_X7_isEmpty⟩ ⟨Nat.le_of_ble_eq_true rfl, Nat.le_of_ble_eq_true rfl⟩ ⟨rfl, rfl⟩ rfl rfl rfl (Nat.le_of_ble_eq_true rfl) ?_
    refine AR.if_eq (pc := 21) (tgt := 31) dX8_put_21 (by decide) (fun c4 => ?_) (fun c4 => ?_)
    · replace h := ite_t c4 h
      refine AR.iload_n (pc := 31) (j := 2) dX8_put_31 rfl rfl ?_
      refine AR.if_lt (pc := 32) (tgt := 47) dX8_put_32 (by decide) (fun c5 => ?_) (fun c5 => ?_)
      · replace h := ite_t c5 h
        exact AR.pick [0] rfl (A8_put_47 (r3.2) r h)
      · replace h := ite_f c5 h
        refine AR.iload_n (pc := 35) (j := 2) dX8_put_35 rfl rfl ?_
        refine AR.aload_n (pc := 36) (j := 0) dX8_put_36 rfl rfl ?_
        refine AR.getf (pc := 37) (ci := 8) (j := 0) (d := 1 + 2) (v := .ref 1) (T := TX8) dX8_put_37 rfl rfl rfl (by decide) (fun w hw => wsU_in (uw_X8 w hw)) (wsU_in fl_X8_25) rfl ?_
        refine AR.iload_n (pc := 40) (j := 1) dX8_put_40 rfl rfl ?_
        obtain ⟨r6, h6, h⟩ := bd_some h
        refine AR.callVN (pc := 41) (As := [.int x1]) (st := [.int x2]) (ci := 7) dX8_put_41 ⟨cd_X7_sizeOf, im_X7_sizeOf, se_X7_sizeOf, ini_X7⟩ mn_X8_315 (A7_sizeOf x1 (r3.2) _ h6) ⟨rfl, pd_X7_sizeOf⟩ ⟨Nat.le_of_ble_eq_true rfl, Nat.le_of_ble_eq_true rfl⟩ ⟨rfl, rfl⟩ rfl rfl rfl (Nat.le_of_ble_eq_true rfl) ?_
        refine AR.icmp_lt (pc := 44) (tgt := 54) dX8_put_44 (by decide) (fun c7 => ?_) (fun c7 => ?_)
        · replace h := ite_t c7 h
          refine AR.aload_n (pc := 54) (j := 0) dX8_put_54 rfl rfl ?_
          refine AR.getf (pc := 55) (ci := 8) (j := 0) (d := 1 + 2) (v := .ref 1) (T := TX8) dX8_put_55 rfl rfl rfl (by decide) (fun w hw => wsU_in (uw_X8 w hw)) (wsU_in fl_X8_25) rfl ?_
          refine AR.iload_n (pc := 58) (j := 1) dX8_put_58 rfl rfl ?_
          refine AR.iload_n (pc := 59) (j := 2) dX8_put_59 rfl rfl ?_
          refine AR.iload_n (pc := 60) (j := 3) dX8_put_60 rfl rfl ?_
          obtain ⟨r8, h8, h⟩ := bd_some h
          refine AR.callVN (pc := 61) (As := [.int x1, .int x2, .int x3]) (st := []) (ci := 7) dX8_put_61 ⟨cd_X7_store, im_X7_store, se_X7_store, ini_X7⟩ mn_X8_318 (A7_store x1 x2 x3 (r6.2) _ h8) ⟨rfl, pd_X7_store⟩ ⟨Nat.le_of_ble_eq_true rfl, Nat.le_of_ble_eq_true rfl⟩ ⟨rfl, rfl⟩ rfl rfl rfl (Nat.le_of_ble_eq_true rfl) ?_
          refine AR.aload_n (pc := 64) (j := 0) dX8_put_64 rfl rfl ?_
          refine AR.iconst (pc := 65) (v := 1) dX8_put_65 (by decide) ?_
          obtain ⟨r9, h9, h⟩ := bd_some h
          refine AR.callV (pc := 66) (As := [.int 1]) (st := []) (ci := 8) dX8_put_66 ⟨cd_X8_told, im_X8_told, se_X8_told, ini_X8⟩ ml_X8_109 (A8_told 1 r8 _ h9) ⟨rfl, pd_X8_told⟩ ⟨Nat.le_of_ble_eq_true rfl, Nat.le_of_ble_eq_true rfl⟩ ⟨rfl, rfl⟩ rfl rfl rfl (Nat.le_of_ble_eq_true rfl) ?_
          exact AR.iret (pc := 69) rfl dX8_put_69 (hrI (Option.some.inj h))
        · replace h := ite_f c7 h
          exact AR.pick [0] rfl (A8_put_47 (r6.2) r h)
    · replace h := ite_f c4 h
      refine AR.aload_n (pc := 24) (j := 0) dX8_put_24 rfl rfl ?_
      refine AR.bipush (pc := 25) (v := (-11)) dX8_put_25 (by decide) ?_
      obtain ⟨r10, h10, h⟩ := bd_some h
      refine AR.callV (pc := 27) (As := [.int (-11)]) (st := []) (ci := 8) dX8_put_27 ⟨cd_X8_told, im_X8_told, se_X8_told, ini_X8⟩ ml_X8_109 (A8_told (-11) (r3.2) _ h10) ⟨rfl, pd_X8_told⟩ ⟨Nat.le_of_ble_eq_true rfl, Nat.le_of_ble_eq_true rfl⟩ ⟨rfl, rfl⟩ rfl rfl rfl (Nat.le_of_ble_eq_true rfl) ?_
      exact AR.iret (pc := 30) rfl dX8_put_30 (hrI (Option.some.inj h))
  · replace h := ite_t c2 h
    refine AR.aload_n (pc := 7) (j := 0) dX8_put_7 rfl rfl ?_
    refine AR.iconst (pc := 8) (v := (-1)) dX8_put_8 (by decide) ?_
    obtain ⟨r11, h11, h⟩ := bd_some h
    refine AR.callV (pc := 9) (As := [.int (-1)]) (st := []) (ci := 8) dX8_put_9 ⟨cd_X8_told, im_X8_told, se_X8_told, ini_X8⟩ ml_X8_109 (A8_told (-1) (r1.2) _ h11) ⟨rfl, pd_X8_told⟩ ⟨Nat.le_of_ble_eq_true rfl, Nat.le_of_ble_eq_true rfl⟩ ⟨rfl, rfl⟩ rfl rfl rfl (Nat.le_of_ble_eq_true rfl) ?_
    exact AR.iret (pc := 12) rfl dX8_put_12 (hrI (Option.some.inj h))
set_option maxHeartbeats 4000000 in
set_option maxRecDepth 100000 in
theorem A8_many {l : Launch} (x1 : Int32) (σ : HS) (r : Int32 × HS) (h : f8_many x1 σ = some r) : MA l yX8_many (wsU yX8_many cX8_many 2 (some .int)) rm8_many SC [.ref 0, .int x1] σ (some (.int r.1), r.2) := by
  refine MA.of (L := [(0, .ref 0), (1, .int x1)]) pn_X8_many rfl (fun _ => Nat.le_of_ble_eq_true rfl) (fun _ => rfl) ?_
  unfold f8_many at h
  refine AR.iload_n (pc := 0) (j := 1) dX8_many_0 rfl rfl ?_
  by_cases c1 : (x1 : Int32) = 0
  · replace h := ite_t c1 h
    refine AR.tableIn (pc := 1) (off := 39) (tgt := 40) dX8_many_1 (by rw [c1]; decide) (by rw [c1]; decide) (by rw [c1]; rfl) (by decide) ?_
    refine AR.aload_n (pc := 40) (j := 0) dX8_many_40 rfl rfl ?_
    refine AR.getf (pc := 41) (ci := 8) (j := 1) (d := 5 + 2) (v := .ref 5) (T := TX8) dX8_many_41 rfl rfl rfl (by decide) (fun w hw => wsU_in (uw_X8 w hw)) (wsU_in fl_X8_32) rfl ?_
    refine AR.getfN (pc := 44) (ci := 4) (j := 0) (d := 0) (v := .int (σ.1 5 0)) (T := TX4) dX8_many_44 rfl rfl rfl (by decide) (fun w hw => wsU_in (uw_X4 w hw)) fn_X8_132 rfl ?_
    exact AR.iret (pc := 47) rfl dX8_many_47 (hrI (Option.some.inj h))
  · replace h := ite_f c1 h
    by_cases c2 : (x1 : Int32) = 1
    · replace h := ite_t c2 h
      refine AR.tableIn (pc := 1) (off := 47) (tgt := 48) dX8_many_1 (by rw [c2]; decide) (by rw [c2]; decide) (by rw [c2]; rfl) (by decide) ?_
      refine AR.aload_n (pc := 48) (j := 0) dX8_many_48 rfl rfl ?_
      refine AR.getf (pc := 49) (ci := 8) (j := 1) (d := 5 + 2) (v := .ref 5) (T := TX8) dX8_many_49 rfl rfl rfl (by decide) (fun w hw => wsU_in (uw_X8 w hw)) (wsU_in fl_X8_32) rfl ?_
      refine AR.getfN (pc := 52) (ci := 4) (j := 1) (d := 0) (v := .int (σ.1 5 1)) (T := TX4) dX8_many_52 rfl rfl rfl (by decide) (fun w hw => wsU_in (uw_X4 w hw)) fn_X8_213 rfl ?_
      exact AR.iret (pc := 55) rfl dX8_many_55 (hrI (Option.some.inj h))
    · replace h := ite_f c2 h
      by_cases c3 : (x1 : Int32) = 2
      · replace h := ite_t c3 h
        refine AR.tableIn (pc := 1) (off := 55) (tgt := 56) dX8_many_1 (by rw [c3]; decide) (by rw [c3]; decide) (by rw [c3]; rfl) (by decide) ?_
        refine AR.aload_n (pc := 56) (j := 0) dX8_many_56 rfl rfl ?_
        refine AR.getf (pc := 57) (ci := 8) (j := 3) (d := 20 + 2) (v := .ref 20) (T := TX8) dX8_many_57 rfl rfl rfl (by decide) (fun w hw => wsU_in (uw_X8 w hw)) (wsU_in fl_X8_54) rfl ?_
        refine AR.getfN (pc := 60) (ci := 0) (j := 3) (d := 0) (v := .int (σ.1 20 3)) (T := TX0) dX8_many_60 rfl rfl rfl (by decide) (fun w hw => wsU_in (uw_X0 w hw)) fn_X8_346 rfl ?_
        exact AR.iret (pc := 63) rfl dX8_many_63 (hrI (Option.some.inj h))
      · replace h := ite_f c3 h
        by_cases c4 : (x1 : Int32) = 3
        · replace h := ite_t c4 h
          refine AR.tableIn (pc := 1) (off := 63) (tgt := 64) dX8_many_1 (by rw [c4]; decide) (by rw [c4]; decide) (by rw [c4]; rfl) (by decide) ?_
          refine AR.aload_n (pc := 64) (j := 0) dX8_many_64 rfl rfl ?_
          refine AR.getf (pc := 65) (ci := 8) (j := 3) (d := 20 + 2) (v := .ref 20) (T := TX8) dX8_many_65 rfl rfl rfl (by decide) (fun w hw => wsU_in (uw_X8 w hw)) (wsU_in fl_X8_54) rfl ?_
          refine AR.getfN (pc := 68) (ci := 0) (j := 2) (d := 0) (v := .int (σ.1 20 2)) (T := TX0) dX8_many_68 rfl rfl rfl (by decide) (fun w hw => wsU_in (uw_X0 w hw)) fn_X8_160 rfl ?_
          exact AR.iret (pc := 71) rfl dX8_many_71 (hrI (Option.some.inj h))
        · replace h := ite_f c4 h
          by_cases c5 : (x1 : Int32) = 4
          · replace h := ite_t c5 h
            refine AR.tableIn (pc := 1) (off := 71) (tgt := 72) dX8_many_1 (by rw [c5]; decide) (by rw [c5]; decide) (by rw [c5]; rfl) (by decide) ?_
            refine AR.aload_n (pc := 72) (j := 0) dX8_many_72 rfl rfl ?_
            refine AR.getf (pc := 73) (ci := 8) (j := 3) (d := 20 + 2) (v := .ref 20) (T := TX8) dX8_many_73 rfl rfl rfl (by decide) (fun w hw => wsU_in (uw_X8 w hw)) (wsU_in fl_X8_54) rfl ?_
            obtain ⟨r6, h6, h⟩ := bd_some h
            refine AR.callVN (pc := 76) (As := []) (st := []) (ci := 0) dX8_many_76 ⟨cd_X0_turns, im_X0_turns, se_X0_turns, ini_X0⟩ mn_X8_189 (A0_turns 20 grp20 σ _ h6) ⟨rfl, pd_X0_turns⟩ ⟨Nat.le_of_ble_eq_true rfl, Nat.le_of_ble_eq_true rfl⟩ ⟨rfl, rfl⟩ rfl rfl rfl (Nat.le_of_ble_eq_true rfl) ?_
            exact AR.iret (pc := 79) rfl dX8_many_79 (hrI (Option.some.inj h))
          · replace h := ite_f c5 h
            by_cases c7 : (x1 : Int32) = 5
            · replace h := ite_t c7 h
              refine AR.tableIn (pc := 1) (off := 79) (tgt := 80) dX8_many_1 (by rw [c7]; decide) (by rw [c7]; decide) (by rw [c7]; rfl) (by decide) ?_
              refine AR.aload_n (pc := 80) (j := 0) dX8_many_80 rfl rfl ?_
              refine AR.getf (pc := 81) (ci := 8) (j := 9) (d := 40 + 2) (v := .ref 40) (T := TX8) dX8_many_81 rfl rfl rfl (by decide) (fun w hw => wsU_in (uw_X8 w hw)) (wsU_in fl_X8_88) rfl ?_
              refine AR.getfN (pc := 84) (ci := 2) (j := 3) (d := 0) (v := .int (σ.1 40 3)) (T := TX2) dX8_many_84 rfl rfl rfl (by decide) (fun w hw => wsU_in (uw_X2 w hw)) fn_X8_274 rfl ?_
              exact AR.iret (pc := 87) rfl dX8_many_87 (hrI (Option.some.inj h))
            · replace h := ite_f c7 h
              refine AR.tableOut (pc := 1) (tgt := 88) dX8_many_1 (tsw6 c1 c2 c3 c4 c5 c7) (by decide) ?_
              refine AR.bipush (pc := 88) (v := (-2)) dX8_many_88 (by decide) ?_
              exact AR.iret (pc := 90) rfl dX8_many_90 (hrI (Option.some.inj h))
