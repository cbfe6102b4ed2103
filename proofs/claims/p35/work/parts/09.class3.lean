set_option maxHeartbeats 4000000 in
set_option maxRecDepth 100000 in
theorem A6_firstFault_73 {l : Launch} (σ : HS) (r : Int32 × HS) (h : f6_firstFault_73 σ = some r) : AR l RX6 cX6_firstFault 4 (some .int) (wsU yX6_firstFault cX6_firstFault 4 (some .int)) rm6_firstFault SC 73 [(0, .ref 19)] [] σ (some (.int r.1), r.2) := by
  unfold f6_firstFault_73 at h
  refine AR.aload_n (pc := 73) (j := 0) dX6_firstFault_73 rfl rfl ?_
  refine AR.getf (pc := 74) (ci := 6) (j := 5) (d := 0) (v := .int (σ.1 19 5)) (T := TX6) dX6_firstFault_74 rfl rfl rfl (by decide) (fun w hw => wsU_in (uw_X6 w hw)) (wsU_in fl_X6_21) rfl ?_
  exact AR.iret (pc := 77) rfl dX6_firstFault_77 (hrI (Option.some.inj h))
set_option maxHeartbeats 4000000 in
set_option maxRecDepth 100000 in
theorem A6_firstFault_57 {l : Launch} (k34 : Int32 × HS → Option (Int32 × HS)) (x3 : Int32) (hk34 : ∀ (p : Int32 × HS) (r : Int32 × HS), k34 p = some r → AR l RX6 cX6_firstFault 4 (some .int) (wsU yX6_firstFault cX6_firstFault 4 (some .int)) rm6_firstFault SC 34 [(0, .ref 19), (3, .int (p.1))] [] p.2 (some (.int r.1), r.2)) (σ : HS) (r : Int32 × HS) (h : f6_firstFault_57 k34 x3 σ = some r) : AR l RX6 cX6_firstFault 4 (some .int) (wsU yX6_firstFault cX6_firstFault 4 (some .int)) rm6_firstFault SC 57 [(0, .ref 19), (3, .int x3)] [] σ (some (.int r.1), r.2) := by
  unfold f6_firstFault_57 at h
  refine AR.aload_n (pc := 57) (j := 0) dX6_firstFault_57 rfl rfl ?_
  refine AR.bipush (pc := 58) (v := 59) dX6_firstFault_58 (by decide) ?_
  obtain ⟨r1, h1, h⟩ := bd_some h
  refine AR.callV (pc := 60) (As := [.int 59]) (st := []) (ci := 6) dX6_firstFault_60 ⟨cd_X6_readSign, im_X6_readSign, se_X6_readSign, ini_X6⟩ ml_X6_36 (A6_readSign 59 σ _ h1) ⟨rfl, pd_X6_readSign⟩ ⟨Nat.le_of_ble_eq_true rfl, Nat.le_of_ble_eq_true rfl⟩ ⟨rfl, rfl⟩ rfl rfl rfl (Nat.le_of_ble_eq_true rfl) ?_
  refine AR.if_eq (pc := 63) (tgt := 73) dX6_firstFault_63 (by decide) (fun c2 => ?_) (fun c2 => ?_)
  · replace h := ite_t c2 h
    exact AR.pick [0] rfl (A6_firstFault_73 (r1.2) r h)
  · replace h := ite_f c2 h
    refine AR.aload_n (pc := 66) (j := 0) dX6_firstFault_66 rfl rfl ?_
    obtain ⟨r3, h3, h⟩ := bd_some h
    refine AR.callV (pc := 67) (As := []) (st := []) (ci := 6) dX6_firstFault_67 ⟨cd_X6_readSpeaker, im_X6_readSpeaker, se_X6_readSpeaker, ini_X6⟩ ml_X6_40 (A6_readSpeaker (r1.2) _ h3) ⟨rfl, pd_X6_readSpeaker⟩ ⟨Nat.le_of_ble_eq_true rfl, Nat.le_of_ble_eq_true rfl⟩ ⟨rfl, rfl⟩ rfl rfl rfl (Nat.le_of_ble_eq_true rfl) ?_
    refine AR.if_ne (pc := 70) (tgt := 78) dX6_firstFault_70 (by decide) (fun c4 => ?_) (fun c4 => ?_)
    · replace h := ite_f c4 h
      refine AR.iinc (pc := 78) (j := 1) (v := (x3 + 1)) (L2 := [(3, .int (x3 + 1)), (0, .ref 19)]) dX6_firstFault_78 rfl rfl (by decide) rfl ?_
      refine AR.goto (pc := 81) (tgt := 34) dX6_firstFault_81 (by decide) ?_
      exact AR.pick [1, 0] rfl (hk34 ((x3 + 1), r3.2) r h)
    · replace h := ite_t c4 h
      exact AR.pick [0] rfl (A6_firstFault_73 (r3.2) r h)
set_option maxHeartbeats 4000000 in
set_option maxRecDepth 100000 in
theorem A6_firstFault_34_b {l : Launch} (k34 : Int32 × HS → Option (Int32 × HS)) (x3 : Int32) (hk34 : ∀ (p : Int32 × HS) (r : Int32 × HS), k34 p = some r → AR l RX6 cX6_firstFault 4 (some .int) (wsU yX6_firstFault cX6_firstFault 4 (some .int)) rm6_firstFault SC 34 [(0, .ref 19), (3, .int (p.1))] [] p.2 (some (.int r.1), r.2)) (σ : HS) (r : Int32 × HS) (h : f6_firstFault_34_b k34 x3 σ = some r) : AR l RX6 cX6_firstFault 4 (some .int) (wsU yX6_firstFault cX6_firstFault 4 (some .int)) rm6_firstFault SC 34 [(0, .ref 19), (3, .int x3)] [] σ (some (.int r.1), r.2) := by
  unfold f6_firstFault_34_b at h
  refine AR.iload_n (pc := 34) (j := 1) dX6_firstFault_34 rfl rfl ?_
  refine AR.iconst (pc := 35) (v := 5) dX6_firstFault_35 (by decide) ?_
  refine AR.icmp_ge (pc := 36) (tgt := 84) dX6_firstFault_36 (by decide) (fun c1 => ?_) (fun c1 => ?_)
  · replace h := ite_t c1 h
    refine AR.aload_n (pc := 84) (j := 0) dX6_firstFault_84 rfl rfl ?_
    refine AR.getf (pc := 85) (ci := 6) (j := 4) (d := 0) (v := .int (σ.1 19 4)) (T := TX6) dX6_firstFault_85 rfl rfl rfl (by decide) (fun w hw => wsU_in (uw_X6 w hw)) (wsU_in fl_X6_18) rfl ?_
    refine AR.aload_n (pc := 88) (j := 0) dX6_firstFault_88 rfl rfl ?_
    refine AR.getf (pc := 89) (ci := 6) (j := 3) (d := 0) (v := .int (σ.1 19 3)) (T := TX6) dX6_firstFault_89 rfl rfl rfl (by decide) (fun w hw => wsU_in (uw_X6 w hw)) (wsU_in fl_X6_15) rfl ?_
    refine AR.icmp_ge (pc := 92) (tgt := 102) dX6_firstFault_92 (by decide) (fun c2 => ?_) (fun c2 => ?_)
    · replace h := ite_t c2 h
      refine AR.iconst (pc := 102) (v := (-1)) dX6_firstFault_102 (by decide) ?_
      exact AR.iret (pc := 103) rfl dX6_firstFault_103 (hrI (Option.some.inj h))
    · replace h := ite_f c2 h
      refine AR.aload_n (pc := 95) (j := 0) dX6_firstFault_95 rfl rfl ?_
      refine AR.getf (pc := 96) (ci := 6) (j := 4) (d := 0) (v := .int (σ.1 19 4)) (T := TX6) dX6_firstFault_96 rfl rfl rfl (by decide) (fun w hw => wsU_in (uw_X6 w hw)) (wsU_in fl_X6_18) rfl ?_
      refine AR.goto (pc := 99) (tgt := 103) dX6_firstFault_99 (by decide) ?_
      exact AR.iret (pc := 103) rfl dX6_firstFault_103 (hrI (Option.some.inj h))
  · replace h := ite_f c1 h
    refine AR.iload_n (pc := 39) (j := 1) dX6_firstFault_39 rfl rfl ?_
    refine AR.iconst (pc := 40) (v := 2) dX6_firstFault_40 (by decide) ?_
    refine AR.icmp_lt (pc := 41) (tgt := 57) dX6_firstFault_41 (by decide) (fun c3 => ?_) (fun c3 => ?_)
    · replace h := ite_t c3 h
      exact AR.pick [0, 1] rfl (A6_firstFault_57 k34 x3 hk34 σ r h)
    · replace h := ite_f c3 h
      refine AR.aload_n (pc := 44) (j := 0) dX6_firstFault_44 rfl rfl ?_
      refine AR.getf (pc := 45) (ci := 6) (j := 4) (d := 0) (v := .int (σ.1 19 4)) (T := TX6) dX6_firstFault_45 rfl rfl rfl (by decide) (fun w hw => wsU_in (uw_X6 w hw)) (wsU_in fl_X6_18) rfl ?_
      refine AR.aload_n (pc := 48) (j := 0) dX6_firstFault_48 rfl rfl ?_
      refine AR.getf (pc := 49) (ci := 6) (j := 3) (d := 0) (v := .int (σ.1 19 3)) (T := TX6) dX6_firstFault_49 rfl rfl rfl (by decide) (fun w hw => wsU_in (uw_X6 w hw)) (wsU_in fl_X6_15) rfl ?_
      refine AR.icmp_lt (pc := 52) (tgt := 57) dX6_firstFault_52 (by decide) (fun c4 => ?_) (fun c4 => ?_)
      · replace h := ite_t c4 h
        exact AR.pick [0, 1] rfl (A6_firstFault_57 k34 x3 hk34 σ r h)
      · replace h := ite_f c4 h
        refine AR.iconst (pc := 55) (v := (-1)) dX6_firstFault_55 (by decide) ?_
        exact AR.iret (pc := 56) rfl dX6_firstFault_56 (hrI (Option.some.inj h))
theorem A6_firstFault_34 {l : Launch} (p : Int32 × HS) (r : Int32 × HS) (h : f6_firstFault_34 p = some r) : AR l RX6 cX6_firstFault 4 (some .int) (wsU yX6_firstFault cX6_firstFault 4 (some .int)) rm6_firstFault SC 34 [(0, .ref 19), (3, .int (p.1))] [] p.2 (some (.int r.1), r.2) := by
  unfold f6_firstFault_34 at h
  exact wloop_run (body := fun k34 p => f6_firstFault_34_b k34 p.1 p.2) (Q := fun p r => AR l RX6 cX6_firstFault 4 (some .int) (wsU yX6_firstFault cX6_firstFault 4 (some .int)) rm6_firstFault SC 34 [(0, .ref 19), (3, .int (p.1))] [] p.2 (some (.int r.1), r.2)) (fun k34 hk34 p r h => A6_firstFault_34_b k34 p.1 hk34 p.2 r h) fuelN p r h
set_option maxHeartbeats 4000000 in
set_option maxRecDepth 100000 in
theorem A6_firstFault {l : Launch} (x1 : Int32) (x2 : Int32) (σ : HS) (r : Int32 × HS) (h : f6_firstFault x1 x2 σ = some r) : MA l yX6_firstFault (wsU yX6_firstFault cX6_firstFault 4 (some .int)) rm6_firstFault SC [.ref 19, .int x1, .int x2] σ (some (.int r.1), r.2) := by
  refine MA.of (L := [(0, .ref 19), (1, .int x1), (2, .int x2)]) pn_X6_firstFault rfl (fun _ => Nat.le_of_ble_eq_true rfl) (fun _ => rfl) ?_
  unfold f6_firstFault at h
  refine AR.aload_n (pc := 0) (j := 0) dX6_firstFault_0 rfl rfl ?_
  refine AR.iload_n (pc := 1) (j := 1) dX6_firstFault_1 rfl rfl ?_
  refine AR.putI (pc := 2) (ci := 6) (j := 2) (T := TX6) (ty0 := tyX6) (ty := .int) dX6_firstFault_2 rfl rfl rfl (by decide) (fun w hw => wsU_in (uw_X6 w hw)) tyX6_ok nmX6 (wsU_in fl_X6_9) rfl (by decide +kernel) rfl rfl ?_
  refine AR.aload_n (pc := 5) (j := 0) dX6_firstFault_5 rfl rfl ?_
  refine AR.iload_n (pc := 6) (j := 2) dX6_firstFault_6 rfl rfl ?_
  refine AR.putI (pc := 7) (ci := 6) (j := 3) (T := TX6) (ty0 := tyX6) (ty := .int) dX6_firstFault_7 rfl rfl rfl (by decide) (fun w hw => wsU_in (uw_X6 w hw)) tyX6_ok nmX6 (wsU_in fl_X6_15) rfl (by decide +kernel) rfl rfl ?_
  refine AR.aload_n (pc := 10) (j := 0) dX6_firstFault_10 rfl rfl ?_
  refine AR.iconst (pc := 11) (v := 0) dX6_firstFault_11 (by decide) ?_
  refine AR.putI (pc := 12) (ci := 6) (j := 4) (T := TX6) (ty0 := tyX6) (ty := .int) dX6_firstFault_12 rfl rfl rfl (by decide) (fun w hw => wsU_in (uw_X6 w hw)) tyX6_ok nmX6 (wsU_in fl_X6_18) rfl (by decide +kernel) rfl rfl ?_
  refine AR.aload_n (pc := 15) (j := 0) dX6_firstFault_15 rfl rfl ?_
  refine AR.iconst (pc := 16) (v := (-1)) dX6_firstFault_16 (by decide) ?_
  refine AR.putI (pc := 17) (ci := 6) (j := 5) (T := TX6) (ty0 := tyX6) (ty := .int) dX6_firstFault_17 rfl rfl rfl (by decide) (fun w hw => wsU_in (uw_X6 w hw)) tyX6_ok nmX6 (wsU_in fl_X6_21) rfl (by decide +kernel) rfl rfl ?_
  refine AR.aload_n (pc := 20) (j := 0) dX6_firstFault_20 rfl rfl ?_
  obtain ⟨r1, h1, h⟩ := bd_some h
  refine AR.callV (pc := 21) (As := []) (st := []) (ci := 6) dX6_firstFault_21 ⟨cd_X6_readJar, im_X6_readJar, se_X6_readJar, ini_X6⟩ ml_X6_32 (A6_readJar (uI (uI (uI (uI σ 19 2 x1) 19 3 x2) 19 4 0) 19 5 (-1)) _ h1) ⟨rfl, pd_X6_readJar⟩ ⟨Nat.le_of_ble_eq_true rfl, Nat.le_of_ble_eq_true rfl⟩ ⟨rfl, rfl⟩ rfl rfl rfl (Nat.le_of_ble_eq_true rfl) ?_
  refine AR.if_ne (pc := 24) (tgt := 32) dX6_firstFault_24 (by decide) (fun c2 => ?_) (fun c2 => ?_)
  · replace h := ite_f c2 h
    refine AR.iconst (pc := 32) (v := 0) dX6_firstFault_32 (by decide) ?_
    refine AR.istore_n (pc := 33) (L2 := [(3, .int 0), (0, .ref 19), (1, .int x1), (2, .int x2)]) dX6_firstFault_33 rfl (by decide) rfl ?_
    exact AR.pick [1, 0] rfl (A6_firstFault_34 (0, r1.2) r h)
  · replace h := ite_t c2 h
    refine AR.aload_n (pc := 27) (j := 0) dX6_firstFault_27 rfl rfl ?_
    refine AR.getf (pc := 28) (ci := 6) (j := 5) (d := 0) (v := .int ((r1.2).1 19 5)) (T := TX6) dX6_firstFault_28 rfl rfl rfl (by decide) (fun w hw => wsU_in (uw_X6 w hw)) (wsU_in fl_X6_21) rfl ?_
    exact AR.iret (pc := 31) rfl dX6_firstFault_31 (hrI (Option.some.inj h))
set_option maxHeartbeats 4000000 in
set_option maxRecDepth 100000 in
theorem A7_isSheet_13 {l : Launch} (σ : HS) (r : Int32 × HS) (h : f7_isSheet_13 σ = some r) : AR l RX7 cX7_isSheet 1 (some .boolean) (wsU yX7_isSheet cX7_isSheet 1 (some .boolean)) rm7_isSheet SC 13 [] [] σ (some (.int r.1), r.2) := by
  unfold f7_isSheet_13 at h
  refine AR.iconst (pc := 13) (v := 0) dX7_isSheet_13 (by decide) ?_
  exact AR.zret (pc := 14) rfl (Or.inl rfl) dX7_isSheet_14 (hrI (Option.some.inj h))
set_option maxHeartbeats 4000000 in
set_option maxRecDepth 100000 in
theorem A7_isSheet {l : Launch} (x0 : Int32) (σ : HS) (r : Int32 × HS) (h : f7_isSheet x0 σ = some r) : MA l yX7_isSheet (wsU yX7_isSheet cX7_isSheet 1 (some .boolean)) rm7_isSheet SC [.int x0] σ (some (.int r.1), r.2) := by
  refine MA.of (L := [(0, .int x0)]) pn_X7_isSheet rfl (fun _ => Nat.le_of_ble_eq_true rfl) (fun _ => rfl) ?_
  unfold f7_isSheet at h
  refine AR.iload_n (pc := 0) (j := 0) dX7_isSheet_0 rfl rfl ?_
  refine AR.if_lt (pc := 1) (tgt := 13) dX7_isSheet_1 (by decide) (fun c1 => ?_) (fun c1 => ?_)
  · replace h := ite_t c1 h
    exact AR.pick [] rfl (A7_isSheet_13 σ r h)
  · replace h := ite_f c1 h
    refine AR.iload_n (pc := 4) (j := 0) dX7_isSheet_4 rfl rfl ?_
    refine AR.iconst (pc := 5) (v := 4) dX7_isSheet_5 (by decide) ?_
    refine AR.icmp_ge (pc := 6) (tgt := 13) dX7_isSheet_6 (by decide) (fun c2 => ?_) (fun c2 => ?_)
    · replace h := ite_t c2 h
      exact AR.pick [] rfl (A7_isSheet_13 σ r h)
    · replace h := ite_f c2 h
      refine AR.iconst (pc := 9) (v := 1) dX7_isSheet_9 (by decide) ?_
      refine AR.goto (pc := 10) (tgt := 14) dX7_isSheet_10 (by decide) ?_
      exact AR.zret (pc := 14) rfl (Or.inr rfl) dX7_isSheet_14 (hrI (Option.some.inj h))
set_option maxHeartbeats 4000000 in
set_option maxRecDepth 100000 in
theorem A7_isLane_13 {l : Launch} (σ : HS) (r : Int32 × HS) (h : f7_isLane_13 σ = some r) : AR l RX7 cX7_isLane 1 (some .boolean) (wsU yX7_isLane cX7_isLane 1 (some .boolean)) rm7_isLane SC 13 [] [] σ (some (.int r.1), r.2) := by
  unfold f7_isLane_13 at h
  refine AR.iconst (pc := 13) (v := 0) dX7_isLane_13 (by decide) ?_
  exact AR.zret (pc := 14) rfl (Or.inl rfl) dX7_isLane_14 (hrI (Option.some.inj h))
set_option maxHeartbeats 4000000 in
set_option maxRecDepth 100000 in
theorem A7_isLane {l : Launch} (x0 : Int32) (σ : HS) (r : Int32 × HS) (h : f7_isLane x0 σ = some r) : MA l yX7_isLane (wsU yX7_isLane cX7_isLane 1 (some .boolean)) rm7_isLane SC [.int x0] σ (some (.int r.1), r.2) := by
  refine MA.of (L := [(0, .int x0)]) pn_X7_isLane rfl (fun _ => Nat.le_of_ble_eq_true rfl) (fun _ => rfl) ?_
  unfold f7_isLane at h
  refine AR.iload_n (pc := 0) (j := 0) dX7_isLane_0 rfl rfl ?_
  refine AR.if_lt (pc := 1) (tgt := 13) dX7_isLane_1 (by decide) (fun c1 => ?_) (fun c1 => ?_)
  · replace h := ite_t c1 h
    exact AR.pick [] rfl (A7_isLane_13 σ r h)
  · replace h := ite_f c1 h
    refine AR.iload_n (pc := 4) (j := 0) dX7_isLane_4 rfl rfl ?_
    refine AR.iconst (pc := 5) (v := 3) dX7_isLane_5 (by decide) ?_
    refine AR.icmp_ge (pc := 6) (tgt := 13) dX7_isLane_6 (by decide) (fun c2 => ?_) (fun c2 => ?_)
    · replace h := ite_t c2 h
      exact AR.pick [] rfl (A7_isLane_13 σ r h)
    · replace h := ite_f c2 h
      refine AR.iconst (pc := 9) (v := 1) dX7_isLane_9 (by decide) ?_
      refine AR.goto (pc := 10) (tgt := 14) dX7_isLane_10 (by decide) ?_
      exact AR.zret (pc := 14) rfl (Or.inr rfl) dX7_isLane_14 (hrI (Option.some.inj h))
set_option maxHeartbeats 4000000 in
set_option maxRecDepth 100000 in
theorem A7_laneOf {l : Launch} (x1 : Int32) (σ : HS) (r : Int32 × HS) (h : f7_laneOf x1 σ = some r) : MA l yX7_laneOf (wsU yX7_laneOf cX7_laneOf 2 (some .int)) rm7_laneOf SC [.ref 1, .int x1] σ (some (.int r.1), r.2) := by
  refine MA.of (L := [(0, .ref 1), (1, .int x1)]) pn_X7_laneOf rfl (fun _ => Nat.le_of_ble_eq_true rfl) (fun _ => rfl) ?_
  unfold f7_laneOf at h
  refine AR.aload_n (pc := 0) (j := 0) dX7_laneOf_0 rfl rfl ?_
  refine AR.getf (pc := 1) (ci := 7) (j := 0) (d := 2 + 2) (v := .ref 2) (T := TX7) dX7_laneOf_1 rfl rfl rfl (by decide) (fun w hw => wsU_in (uw_X7 w hw)) (wsU_in fl_X7_11) rfl ?_
  refine AR.iload_n (pc := 4) (j := 1) dX7_laneOf_4 rfl rfl ?_
  obtain ⟨r1, h1, h⟩ := bd_some h
  refine AR.callSN (pc := 5) (As := [.ref 2, .int x1]) (st := []) dX7_laneOf_5 ⟨cd_X8_at, sm_X8_at, ini_X8⟩ mn_X7_25 (A8_at 2 4 rfl x1 σ _ h1) pd_X8_at ⟨Nat.le_of_ble_eq_true rfl, Nat.le_of_ble_eq_true rfl⟩ ⟨rfl, rfl⟩ rfl (Nat.le_of_ble_eq_true rfl) ?_
  exact AR.iret (pc := 8) rfl dX7_laneOf_8 (hrI (Option.some.inj h))
set_option maxHeartbeats 4000000 in
set_option maxRecDepth 100000 in
theorem A7_sizeOf {l : Launch} (x1 : Int32) (σ : HS) (r : Int32 × HS) (h : f7_sizeOf x1 σ = some r) : MA l yX7_sizeOf (wsU yX7_sizeOf cX7_sizeOf 2 (some .int)) rm7_sizeOf SC [.ref 1, .int x1] σ (some (.int r.1), r.2) := by
  refine MA.of (L := [(0, .ref 1), (1, .int x1)]) pn_X7_sizeOf rfl (fun _ => Nat.le_of_ble_eq_true rfl) (fun _ => rfl) ?_
  unfold f7_sizeOf at h
  refine AR.aload_n (pc := 0) (j := 0) dX7_sizeOf_0 rfl rfl ?_
  refine AR.getf (pc := 1) (ci := 7) (j := 1) (d := 3 + 2) (v := .ref 3) (T := TX7) dX7_sizeOf_1 rfl rfl rfl (by decide) (fun w hw => wsU_in (uw_X7 w hw)) (wsU_in fl_X7_15) rfl ?_
  refine AR.iload_n (pc := 4) (j := 1) dX7_sizeOf_4 rfl rfl ?_
  obtain ⟨r1, h1, h⟩ := bd_some h
  refine AR.callSN (pc := 5) (As := [.ref 3, .int x1]) (st := []) dX7_sizeOf_5 ⟨cd_X8_at, sm_X8_at, ini_X8⟩ mn_X7_25 (A8_at 3 4 rfl x1 σ _ h1) pd_X8_at ⟨Nat.le_of_ble_eq_true rfl, Nat.le_of_ble_eq_true rfl⟩ ⟨rfl, rfl⟩ rfl (Nat.le_of_ble_eq_true rfl) ?_
  exact AR.iret (pc := 8) rfl dX7_sizeOf_8 (hrI (Option.some.inj h))
set_option maxHeartbeats 4000000 in
set_option maxRecDepth 100000 in
theorem A7_isEmpty {l : Launch} (x1 : Int32) (σ : HS) (r : Int32 × HS) (h : f7_isEmpty x1 σ = some r) : MA l yX7_isEmpty (wsU yX7_isEmpty cX7_isEmpty 2 (some .boolean)) rm7_isEmpty SC [.ref 1, .int x1] σ (some (.int r.1), r.2) := by
  refine MA.of (L := [(0, .ref 1), (1, .int x1)]) pn_X7_isEmpty rfl (fun _ => Nat.le_of_ble_eq_true rfl) (fun _ => rfl) ?_
  unfold f7_isEmpty at h
  refine AR.aload_n (pc := 0) (j := 0) dX7_isEmpty_0 rfl rfl ?_
  refine AR.iload_n (pc := 1) (j := 1) dX7_isEmpty_1 rfl rfl ?_
  obtain ⟨r1, h1, h⟩ := bd_some h
  refine AR.callV (pc := 2) (As := [.int x1]) (st := []) (ci := 7) dX7_isEmpty_2 ⟨cd_X7_laneOf, im_X7_laneOf, se_X7_laneOf, ini_X7⟩ ml_X7_29 (A7_laneOf x1 σ _ h1) ⟨rfl, pd_X7_laneOf⟩ ⟨Nat.le_of_ble_eq_true rfl, Nat.le_of_ble_eq_true rfl⟩ ⟨rfl, rfl⟩ rfl rfl rfl (Nat.le_of_ble_eq_true rfl) ?_
  refine AR.iconst (pc := 5) (v := (-1)) dX7_isEmpty_5 (by decide) ?_
  refine AR.icmp_ne (pc := 6) (tgt := 13) dX7_isEmpty_6 (by decide) (fun c2 => ?_) (fun c2 => ?_)
  · replace h := ite_f c2 h
    refine AR.iconst (pc := 13) (v := 0) dX7_isEmpty_13 (by decide) ?_
    exact AR.zret (pc := 14) rfl (Or.inl rfl) dX7_isEmpty_14 (hrI (Option.some.inj h))
  · replace h := ite_t c2 h
    refine AR.iconst (pc := 9) (v := 1) dX7_isEmpty_9 (by decide) ?_
    refine AR.goto (pc := 10) (tgt := 14) dX7_isEmpty_10 (by decide) ?_
    exact AR.zret (pc := 14) rfl (Or.inr rfl) dX7_isEmpty_14 (hrI (Option.some.inj h))
set_option maxHeartbeats 4000000 in
set_option maxRecDepth 100000 in
theorem A7_placeOf {l : Launch} (x0 : Int32) (x1 : Int32) (σ : HS) (r : Int32 × HS) (h : f7_placeOf x0 x1 σ = some r) : MA l yX7_placeOf (wsU yX7_placeOf cX7_placeOf 2 (some .int)) rm7_placeOf SC [.int x0, .int x1] σ (some (.int r.1), r.2) := by
  refine MA.of (L := [(0, .int x0), (1, .int x1)]) pn_X7_placeOf rfl (fun _ => Nat.le_of_ble_eq_true rfl) (fun _ => rfl) ?_
  unfold f7_placeOf at h
  refine AR.iload_n (pc := 0) (j := 0) dX7_placeOf_0 rfl rfl ?_
  refine AR.bipush (pc := 1) (v := 100) dX7_placeOf_1 (by decide) ?_
  refine AR.imul (pc := 3) dX7_placeOf_3 ?_
  refine AR.iload_n (pc := 4) (j := 1) dX7_placeOf_4 rfl rfl ?_
  refine AR.iadd (pc := 5) dX7_placeOf_5 ?_
  exact AR.iret (pc := 6) rfl dX7_placeOf_6 (hrI (Option.some.inj h))
set_option maxHeartbeats 4000000 in
set_option maxRecDepth 100000 in
theorem A7_valueAt {l : Launch} (x1 : Int32) (x2 : Int32) (σ : HS) (r : Int32 × HS) (h : f7_valueAt x1 x2 σ = some r) : MA l yX7_valueAt (wsU yX7_valueAt cX7_valueAt 3 (some .int)) rm7_valueAt SC [.ref 1, .int x1, .int x2] σ (some (.int r.1), r.2) := by
  refine MA.of (L := [(0, .ref 1), (1, .int x1), (2, .int x2)]) pn_X7_valueAt rfl (fun _ => Nat.le_of_ble_eq_true rfl) (fun _ => rfl) ?_
  unfold f7_valueAt at h
  refine AR.aload_n (pc := 0) (j := 0) dX7_valueAt_0 rfl rfl ?_
  refine AR.getf (pc := 1) (ci := 7) (j := 2) (d := 4 + 2) (v := .ref 4) (T := TX7) dX7_valueAt_1 rfl rfl rfl (by decide) (fun w hw => wsU_in (uw_X7 w hw)) (wsU_in fl_X7_18) rfl ?_
  refine AR.iload_n (pc := 4) (j := 1) dX7_valueAt_4 rfl rfl ?_
  refine AR.iload_n (pc := 5) (j := 2) dX7_valueAt_5 rfl rfl ?_
  obtain ⟨r1, h1, h⟩ := bd_some h
  refine AR.callS (pc := 6) (As := [.int x1, .int x2]) (st := [.ref 4]) dX7_valueAt_6 ⟨cd_X7_placeOf, sm_X7_placeOf, ini_X7⟩ ml_X7_33 (A7_placeOf x1 x2 σ _ h1) ⟨rfl, pd_X7_placeOf⟩ ⟨Nat.le_of_ble_eq_true rfl, Nat.le_of_ble_eq_true rfl⟩ ⟨rfl, rfl⟩ rfl (Nat.le_of_ble_eq_true rfl) ?_
  obtain ⟨r2, h2, h⟩ := bd_some h
  refine AR.callSN (pc := 9) (As := [.ref 4, .int (r1.1)]) (st := []) dX7_valueAt_9 ⟨cd_X8_at, sm_X8_at, ini_X8⟩ mn_X7_25 (A8_at 4 400 rfl (r1.1) (r1.2) _ h2) pd_X8_at ⟨Nat.le_of_ble_eq_true rfl, Nat.le_of_ble_eq_true rfl⟩ ⟨rfl, rfl⟩ rfl (Nat.le_of_ble_eq_true rfl) ?_
  exact AR.iret (pc := 12) rfl dX7_valueAt_12 (hrI (Option.some.inj h))
set_option maxHeartbeats 4000000 in
set_option maxRecDepth 100000 in
theorem A7_renew_21_b {l : Launch} (k21 : Int32 × HS → Option (HS)) (x1 : Int32) (x4 : Int32) (hk21 : ∀ (p : Int32 × HS) (r : HS), k21 p = some r → AR l RX7 cX7_renew 5 none (wsU yX7_renew cX7_renew 5 none) rm7_renew SC 21 [(0, .ref 1), (1, .int x1), (4, .int (p.1))] [] p.2 (none, r)) (σ : HS) (r : HS) (h : f7_renew_21_b k21 x1 x4 σ = some r) : AR l RX7 cX7_renew 5 none (wsU yX7_renew cX7_renew 5 none) rm7_renew SC 21 [(0, .ref 1), (1, .int x1), (4, .int x4)] [] σ (none, r) := by
  unfold f7_renew_21_b at h
  refine AR.iload (pc := 21) (j := 2) dX7_renew_21 rfl ?_
  refine AR.bipush (pc := 23) (v := 100) dX7_renew_23 (by decide) ?_
  refine AR.icmp_ge (pc := 25) (tgt := 48) dX7_renew_25 (by decide) (fun c1 => ?_) (fun c1 => ?_)
  · replace h := ite_t c1 h
    exact AR.vret (pc := 48) rfl dX7_renew_48 (hrV (Option.some.inj h))
  · replace h := ite_f c1 h
    refine AR.aload_n (pc := 28) (j := 0) dX7_renew_28 rfl rfl ?_
    refine AR.getf (pc := 29) (ci := 7) (j := 2) (d := 4 + 2) (v := .ref 4) (T := TX7) dX7_renew_29 rfl rfl rfl (by decide) (fun w hw => wsU_in (uw_X7 w hw)) (wsU_in fl_X7_18) rfl ?_
    refine AR.iload_n (pc := 32) (j := 1) dX7_renew_32 rfl rfl ?_
    refine AR.iload (pc := 33) (j := 2) dX7_renew_33 rfl ?_
    obtain ⟨r2, h2, h⟩ := bd_some h
    refine AR.callS (pc := 35) (As := [.int x1, .int x4]) (st := [.ref 4]) dX7_renew_35 ⟨cd_X7_placeOf, sm_X7_placeOf, ini_X7⟩ ml_X7_33 (A7_placeOf x1 x4 σ _ h2) ⟨rfl, pd_X7_placeOf⟩ ⟨Nat.le_of_ble_eq_true rfl, Nat.le_of_ble_eq_true rfl⟩ ⟨rfl, rfl⟩ rfl (Nat.le_of_ble_eq_true rfl) ?_
    refine AR.iconst (pc := 38) (v := 0) dX7_renew_38 (by decide) ?_
    obtain ⟨r3, h3, h⟩ := bd_some h
    refine AR.callSN (pc := 39) (As := [.ref 4, .int (r2.1), .int 0]) (st := []) dX7_renew_39 ⟨cd_X8_set, sm_X8_set, ini_X8⟩ mn_X7_21 (A8_set 4 400 rfl (r2.1) 0 (r2.2) _ h3) pd_X8_set ⟨Nat.le_of_ble_eq_true rfl, Nat.le_of_ble_eq_true rfl⟩ ⟨rfl, rfl⟩ rfl (Nat.le_of_ble_eq_true rfl) ?_
    refine AR.iinc (pc := 42) (j := 2) (v := (x4 + 1)) (L2 := [(4, .int (x4 + 1)), (0, .ref 1), (1, .int x1)]) dX7_renew_42 rfl rfl (by decide) rfl ?_
    refine AR.goto (pc := 45) (tgt := 21) dX7_renew_45 (by decide) ?_
    exact AR.pick [1, 2, 0] rfl (hk21 ((x4 + 1), r3) r h)
theorem A7_renew_21 {l : Launch} (x1 : Int32) (p : Int32 × HS) (r : HS) (h : f7_renew_21 x1 p = some r) : AR l RX7 cX7_renew 5 none (wsU yX7_renew cX7_renew 5 none) rm7_renew SC 21 [(0, .ref 1), (1, .int x1), (4, .int (p.1))] [] p.2 (none, r) := by
  unfold f7_renew_21 at h
  exact wloop_run (body := fun k21 p => f7_renew_21_b k21 x1 p.1 p.2) (Q := fun p r => AR l RX7 cX7_renew 5 none (wsU yX7_renew cX7_renew 5 none) rm7_renew SC 21 [(0, .ref 1), (1, .int x1), (4, .int (p.1))] [] p.2 (none, r)) (fun k21 hk21 p r h => A7_renew_21_b k21 x1 p.1 hk21 p.2 r h) fuelN p r h
set_option maxHeartbeats 4000000 in
set_option maxRecDepth 100000 in
theorem A7_renew {l : Launch} (x1 : Int32) (x2 : Int32) (x3 : Int32) (σ : HS) (r : HS) (h : f7_renew x1 x2 x3 σ = some r) : MA l yX7_renew (wsU yX7_renew cX7_renew 5 none) rm7_renew SC [.ref 1, .int x1, .int x2, .int x3] σ (none, r) := by
  refine MA.of (L := [(0, .ref 1), (1, .int x1), (2, .int x2), (3, .int x3)]) pn_X7_renew rfl (fun _ => Nat.le_of_ble_eq_true rfl) (fun _ => rfl) ?_
  unfold f7_renew at h
  refine AR.aload_n (pc := 0) (j := 0) dX7_renew_0 rfl rfl ?_
  refine AR.getf (pc := 1) (ci := 7) (j := 0) (d := 2 + 2) (v := .ref 2) (T := TX7) dX7_renew_1 rfl rfl rfl (by decide) (fun w hw => wsU_in (uw_X7 w hw)) (wsU_in fl_X7_11) rfl ?_
  refine AR.iload_n (pc := 4) (j := 1) dX7_renew_4 rfl rfl ?_
  refine AR.iload_n (pc := 5) (j := 2) dX7_renew_5 rfl rfl ?_
  obtain ⟨r1, h1, h⟩ := bd_some h
  refine AR.callSN (pc := 6) (As := [.ref 2, .int x1, .int x2]) (st := []) dX7_renew_6 ⟨cd_X8_set, sm_X8_set, ini_X8⟩ mn_X7_21 (A8_set 2 4 rfl x1 x2 σ _ h1) pd_X8_set ⟨Nat.le_of_ble_eq_true rfl, Nat.le_of_ble_eq_true rfl⟩ ⟨rfl, rfl⟩ rfl (Nat.le_of_ble_eq_true rfl) ?_
  refine AR.aload_n (pc := 9) (j := 0) dX7_renew_9 rfl rfl ?_
  refine AR.getf (pc := 10) (ci := 7) (j := 1) (d := 3 + 2) (v := .ref 3) (T := TX7) dX7_renew_10 rfl rfl rfl (by decide) (fun w hw => wsU_in (uw_X7 w hw)) (wsU_in fl_X7_15) rfl ?_
  refine AR.iload_n (pc := 13) (j := 1) dX7_renew_13 rfl rfl ?_
  refine AR.iload_n (pc := 14) (j := 3) dX7_renew_14 rfl rfl ?_
  obtain ⟨r2, h2, h⟩ := bd_some h
  refine AR.callSN (pc := 15) (As := [.ref 3, .int x1, .int x3]) (st := []) dX7_renew_15 ⟨cd_X8_set, sm_X8_set, ini_X8⟩ mn_X7_21 (A8_set 3 4 rfl x1 x3 r1 _ h2) pd_X8_set ⟨Nat.le_of_ble_eq_true rfl, Nat.le_of_ble_eq_true rfl⟩ ⟨rfl, rfl⟩ rfl (Nat.le_of_ble_eq_true rfl) ?_
  refine AR.iconst (pc := 18) (v := 0) dX7_renew_18 (by decide) ?_
  refine AR.istore (pc := 19) (L2 := [(4, .int 0), (0, .ref 1), (1, .int x1), (2, .int x2), (3, .int x3)]) dX7_renew_19 (by decide) rfl ?_
  exact AR.pick [1, 2, 0] rfl (A7_renew_21 x1 (0, r2) r h)
set_option maxHeartbeats 4000000 in
set_option maxRecDepth 100000 in
theorem A7_cutTo {l : Launch} (x0 : Int32) (x1 : Int32) (σ : HS) (r : Int32 × HS) (h : f7_cutTo x0 x1 σ = some r) : MA l yX7_cutTo (wsU yX7_cutTo cX7_cutTo 2 (some .int)) rm7_cutTo SC [.int x0, .int x1] σ (some (.int r.1), r.2) := by
  refine MA.of (L := [(0, .int x0), (1, .int x1)]) pn_X7_cutTo rfl (fun _ => Nat.le_of_ble_eq_true rfl) (fun _ => rfl) ?_
  unfold f7_cutTo at h
  refine AR.iload_n (pc := 0) (j := 0) dX7_cutTo_0 rfl rfl ?_
  refine AR.if_ne (pc := 1) (tgt := 7) dX7_cutTo_1 (by decide) (fun c1 => ?_) (fun c1 => ?_)
  · replace h := ite_f c1 h
    refine AR.iload_n (pc := 7) (j := 0) dX7_cutTo_7 rfl rfl ?_
    refine AR.iconst (pc := 8) (v := 1) dX7_cutTo_8 (by decide) ?_
    refine AR.icmp_ne (pc := 9) (tgt := 17) dX7_cutTo_9 (by decide) (fun c2 => ?_) (fun c2 => ?_)
    · replace h := ite_f c2 h
      refine AR.iload_n (pc := 17) (j := 1) dX7_cutTo_17 rfl rfl ?_
      exact AR.iret (pc := 18) rfl dX7_cutTo_18 (hrI (Option.some.inj h))
    · replace h := ite_t c2 h
      refine AR.iload_n (pc := 12) (j := 1) dX7_cutTo_12 rfl rfl ?_
      refine AR.i2s (pc := 13) dX7_cutTo_13 ?_
      refine AR.goto (pc := 14) (tgt := 18) dX7_cutTo_14 (by decide) ?_
      exact AR.iret (pc := 18) rfl dX7_cutTo_18 (hrI (Option.some.inj h))
  · replace h := ite_t c1 h
    refine AR.iload_n (pc := 4) (j := 1) dX7_cutTo_4 rfl rfl ?_
    refine AR.i2b (pc := 5) dX7_cutTo_5 ?_
    exact AR.iret (pc := 6) rfl dX7_cutTo_6 (hrI (Option.some.inj h))
set_option maxHeartbeats 4000000 in
set_option maxRecDepth 100000 in
theorem A7_store {l : Launch} (x1 : Int32) (x2 : Int32) (x3 : Int32) (σ : HS) (r : HS) (h : f7_store x1 x2 x3 σ = some r) : MA l yX7_store (wsU yX7_store cX7_store 4 none) rm7_store SC [.ref 1, .int x1, .int x2, .int x3] σ (none, r) := by
  refine MA.of (L := [(0, .ref 1), (1, .int x1), (2, .int x2), (3, .int x3)]) pn_X7_store rfl (fun _ => Nat.le_of_ble_eq_true rfl) (fun _ => rfl) ?_
  unfold f7_store at h
  refine AR.aload_n (pc := 0) (j := 0) dX7_store_0 rfl rfl ?_
  refine AR.getf (pc := 1) (ci := 7) (j := 2) (d := 4 + 2) (v := .ref 4) (T := TX7) dX7_store_1 rfl rfl rfl (by decide) (fun w hw => wsU_in (uw_X7 w hw)) (wsU_in fl_X7_18) rfl ?_
  refine AR.iload_n (pc := 4) (j := 1) dX7_store_4 rfl rfl ?_
  refine AR.iload_n (pc := 5) (j := 2) dX7_store_5 rfl rfl ?_
  obtain ⟨r1, h1, h⟩ := bd_some h
  refine AR.callS (pc := 6) (As := [.int x1, .int x2]) (st := [.ref 4]) dX7_store_6 ⟨cd_X7_placeOf, sm_X7_placeOf, ini_X7⟩ ml_X7_33 (A7_placeOf x1 x2 σ _ h1) ⟨rfl, pd_X7_placeOf⟩ ⟨Nat.le_of_ble_eq_true rfl, Nat.le_of_ble_eq_true rfl⟩ ⟨rfl, rfl⟩ rfl (Nat.le_of_ble_eq_true rfl) ?_
  refine AR.aload_n (pc := 9) (j := 0) dX7_store_9 rfl rfl ?_
  refine AR.iload_n (pc := 10) (j := 1) dX7_store_10 rfl rfl ?_
  obtain ⟨r2, h2, h⟩ := bd_some h
  refine AR.callV (pc := 11) (As := [.int x1]) (st := [.int (r1.1), .ref 4]) (ci := 7) dX7_store_11 ⟨cd_X7_laneOf, im_X7_laneOf, se_X7_laneOf, ini_X7⟩ ml_X7_29 (A7_laneOf x1 (r1.2) _ h2) ⟨rfl, pd_X7_laneOf⟩ ⟨Nat.le_of_ble_eq_true rfl, Nat.le_of_ble_eq_true rfl⟩ ⟨rfl, rfl⟩ rfl rfl rfl (Nat.le_of_ble_eq_true rfl) ?_
  refine AR.iload_n (pc := 14) (j := 3) dX7_store_14 rfl rfl ?_
  obtain ⟨r3, h3, h⟩ := bd_some h
  refine AR.callS (pc := 15) (As := [.int (r2.1), .int x3]) (st := [.int (r1.1), .ref 4]) dX7_store_15 ⟨cd_X7_cutTo, sm_X7_cutTo, ini_X7⟩ ml_X7_41 (A7_cutTo (r2.1) x3 (r2.2) _ h3) ⟨rfl, pd_X7_cutTo⟩ ⟨Nat.le_of_ble_eq_true rfl, Nat.le_of_ble_eq_true rfl⟩ ⟨rfl, rfl⟩ rfl (Nat.le_of_ble_eq_true rfl) ?_
  obtain ⟨r4, h4, h⟩ := bd_some h
  refine AR.callSN (pc := 18) (As := [.ref 4, .int (r1.1), .int (r3.1)]) (st := []) dX7_store_18 ⟨cd_X8_set, sm_X8_set, ini_X8⟩ mn_X7_21 (A8_set 4 400 rfl (r1.1) (r3.1) (r3.2) _ h4) pd_X8_set ⟨Nat.le_of_ble_eq_true rfl, Nat.le_of_ble_eq_true rfl⟩ ⟨rfl, rfl⟩ rfl (Nat.le_of_ble_eq_true rfl) ?_
  exact AR.vret (pc := 21) rfl dX7_store_21 (hrV (Option.some.inj h))
set_option maxHeartbeats 4000000 in
set_option maxRecDepth 100000 in
theorem A7_hasPart_28 {l : Launch} (σ : HS) (r : Int32 × HS) (h : f7_hasPart_28 σ = some r) : AR l RX7 cX7_hasPart 4 (some .boolean) (wsU yX7_hasPart cX7_hasPart 4 (some .boolean)) rm7_hasPart SC 28 [] [] σ (some (.int r.1), r.2) := by
  unfold f7_hasPart_28 at h
  refine AR.iconst (pc := 28) (v := 0) dX7_hasPart_28 (by decide) ?_
  exact AR.zret (pc := 29) rfl (Or.inl rfl) dX7_hasPart_29 (hrI (Option.some.inj h))
set_option maxHeartbeats 4000000 in
set_option maxRecDepth 100000 in
theorem A7_hasPart {l : Launch} (x1 : Int32) (x2 : Int32) (x3 : Int32) (σ : HS) (r : Int32 × HS) (h : f7_hasPart x1 x2 x3 σ = some r) : MA l yX7_hasPart (wsU yX7_hasPart cX7_hasPart 4 (some .boolean)) rm7_hasPart SC [.ref 1, .int x1, .int x2, .int x3] σ (some (.int r.1), r.2) := by
  refine MA.of (L := [(0, .ref 1), (1, .int x1), (2, .int x2), (3, .int x3)]) pn_X7_hasPart rfl (fun _ => Nat.le_of_ble_eq_true rfl) (fun _ => rfl) ?_
  unfold f7_hasPart at h
  refine AR.iload_n (pc := 0) (j := 2) dX7_hasPart_0 rfl rfl ?_
  refine AR.if_lt (pc := 1) (tgt := 28) dX7_hasPart_1 (by decide) (fun c1 => ?_) (fun c1 => ?_)
  · replace h := ite_t c1 h
    exact AR.pick [] rfl (A7_hasPart_28 σ r h)
  · replace h := ite_f c1 h
    refine AR.iload_n (pc := 4) (j := 2) dX7_hasPart_4 rfl rfl ?_
    refine AR.aload_n (pc := 5) (j := 0) dX7_hasPart_5 rfl rfl ?_
    refine AR.iload_n (pc := 6) (j := 1) dX7_hasPart_6 rfl rfl ?_
    obtain ⟨r2, h2, h⟩ := bd_some h
    refine AR.callV (pc := 7) (As := [.int x1]) (st := [.int x2]) (ci := 7) dX7_hasPart_7 ⟨cd_X7_sizeOf, im_X7_sizeOf, se_X7_sizeOf, ini_X7⟩ ml_X7_47 (A7_sizeOf x1 σ _ h2) ⟨rfl, pd_X7_sizeOf⟩ ⟨Nat.le_of_ble_eq_true rfl, Nat.le_of_ble_eq_true rfl⟩ ⟨rfl, rfl⟩ rfl rfl rfl (Nat.le_of_ble_eq_true rfl) ?_
    refine AR.icmp_gt (pc := 10) (tgt := 28) dX7_hasPart_10 (by decide) (fun c3 => ?_) (fun c3 => ?_)
    · replace h := ite_t c3 h
      exact AR.pick [] rfl (A7_hasPart_28 (r2.2) r h)
    · replace h := ite_f c3 h
      refine AR.iload_n (pc := 13) (j := 3) dX7_hasPart_13 rfl rfl ?_
      refine AR.aload_n (pc := 14) (j := 0) dX7_hasPart_14 rfl rfl ?_
      refine AR.iload_n (pc := 15) (j := 1) dX7_hasPart_15 rfl rfl ?_
      obtain ⟨r4, h4, h⟩ := bd_some h
      refine AR.callV (pc := 16) (As := [.int x1]) (st := [.int x3]) (ci := 7) dX7_hasPart_16 ⟨cd_X7_sizeOf, im_X7_sizeOf, se_X7_sizeOf, ini_X7⟩ ml_X7_47 (A7_sizeOf x1 (r2.2) _ h4) ⟨rfl, pd_X7_sizeOf⟩ ⟨Nat.le_of_ble_eq_true rfl, Nat.le_of_ble_eq_true rfl⟩ ⟨rfl, rfl⟩ rfl rfl rfl (Nat.le_of_ble_eq_true rfl) ?_
      refine AR.iload_n (pc := 19) (j := 2) dX7_hasPart_19 rfl rfl ?_
      refine AR.isub (pc := 20) dX7_hasPart_20 ?_
      refine AR.icmp_gt (pc := 21) (tgt := 28) dX7_hasPart_21 (by decide) (fun c5 => ?_) (fun c5 => ?_)
      · replace h := ite_t c5 h
        exact AR.pick [] rfl (A7_hasPart_28 (r4.2) r h)
      · replace h := ite_f c5 h
        refine AR.iconst (pc := 24) (v := 1) dX7_hasPart_24 (by decide) ?_
        refine AR.goto (pc := 25) (tgt := 29) dX7_hasPart_25 (by decide) ?_
        exact AR.zret (pc := 29) rfl (Or.inr rfl) dX7_hasPart_29 (hrI (Option.some.inj h))
set_option maxHeartbeats 4000000 in
set_option maxRecDepth 100000 in
theorem A7_rowRefusal {l : Launch} (x1 : Int32) (x2 : Int32) (σ : HS) (r : Int32 × HS) (h : f7_rowRefusal x1 x2 σ = some r) : MA l yX7_rowRefusal (wsU yX7_rowRefusal cX7_rowRefusal 3 (some .int)) rm7_rowRefusal SC [.ref 1, .int x1, .int x2] σ (some (.int r.1), r.2) := by
  refine MA.of (L := [(0, .ref 1), (1, .int x1), (2, .int x2)]) pn_X7_rowRefusal rfl (fun _ => Nat.le_of_ble_eq_true rfl) (fun _ => rfl) ?_
  unfold f7_rowRefusal at h
  refine AR.iload_n (pc := 0) (j := 1) dX7_rowRefusal_0 rfl rfl ?_
  obtain ⟨r1, h1, h⟩ := bd_some h
  refine AR.callS (pc := 1) (As := [.int x1]) (st := []) dX7_rowRefusal_1 ⟨cd_X7_isSheet, sm_X7_isSheet, ini_X7⟩ ml_X7_50 (A7_isSheet x1 σ _ h1) ⟨rfl, pd_X7_isSheet⟩ ⟨Nat.le_of_ble_eq_true rfl, Nat.le_of_ble_eq_true rfl⟩ ⟨rfl, rfl⟩ rfl (Nat.le_of_ble_eq_true rfl) ?_
  refine AR.if_ne (pc := 4) (tgt := 9) dX7_rowRefusal_4 (by decide) (fun c2 => ?_) (fun c2 => ?_)
  · replace h := ite_f c2 h
    refine AR.iload_n (pc := 9) (j := 2) dX7_rowRefusal_9 rfl rfl ?_
    obtain ⟨r3, h3, h⟩ := bd_some h
    refine AR.callS (pc := 10) (As := [.int x2]) (st := []) dX7_rowRefusal_10 ⟨cd_X7_isLane, sm_X7_isLane, ini_X7⟩ ml_X7_53 (A7_isLane x2 (r1.2) _ h3) ⟨rfl, pd_X7_isLane⟩ ⟨Nat.le_of_ble_eq_true rfl, Nat.le_of_ble_eq_true rfl⟩ ⟨rfl, rfl⟩ rfl (Nat.le_of_ble_eq_true rfl) ?_
    refine AR.if_ne (pc := 13) (tgt := 19) dX7_rowRefusal_13 (by decide) (fun c4 => ?_) (fun c4 => ?_)
    · replace h := ite_f c4 h
      refine AR.aload_n (pc := 19) (j := 0) dX7_rowRefusal_19 rfl rfl ?_
      refine AR.iload_n (pc := 20) (j := 1) dX7_rowRefusal_20 rfl rfl ?_
      obtain ⟨r5, h5, h⟩ := bd_some h
      refine AR.callV (pc := 21) (As := [.int x1]) (st := []) (ci := 7) dX7_rowRefusal_21 ⟨cd_X7_isEmpty, im_X7_isEmpty, se_X7_isEmpty, ini_X7⟩ ml_X7_37 (A7_isEmpty x1 (r3.2) _ h5) ⟨rfl, pd_X7_isEmpty⟩ ⟨Nat.le_of_ble_eq_true rfl, Nat.le_of_ble_eq_true rfl⟩ ⟨rfl, rfl⟩ rfl rfl rfl (Nat.le_of_ble_eq_true rfl) ?_
      refine AR.if_eq (pc := 24) (tgt := 30) dX7_rowRefusal_24 (by decide) (fun c6 => ?_) (fun c6 => ?_)
      · replace h := ite_t c6 h
        refine AR.aload_n (pc := 30) (j := 0) dX7_rowRefusal_30 rfl rfl ?_
        refine AR.iload_n (pc := 31) (j := 1) dX7_rowRefusal_31 rfl rfl ?_
        obtain ⟨r7, h7, h⟩ := bd_some h
        refine AR.callV (pc := 32) (As := [.int x1]) (st := []) (ci := 7) dX7_rowRefusal_32 ⟨cd_X7_laneOf, im_X7_laneOf, se_X7_laneOf, ini_X7⟩ ml_X7_29 (A7_laneOf x1 (r5.2) _ h7) ⟨rfl, pd_X7_laneOf⟩ ⟨Nat.le_of_ble_eq_true rfl, Nat.le_of_ble_eq_true rfl⟩ ⟨rfl, rfl⟩ rfl rfl rfl (Nat.le_of_ble_eq_true rfl) ?_
        refine AR.iload_n (pc := 35) (j := 2) dX7_rowRefusal_35 rfl rfl ?_
        refine AR.icmp_ne (pc := 36) (tgt := 43) dX7_rowRefusal_36 (by decide) (fun c8 => ?_) (fun c8 => ?_)
        · replace h := ite_f c8 h
          refine AR.bipush (pc := 43) (v := (-12)) dX7_rowRefusal_43 (by decide) ?_
          exact AR.iret (pc := 45) rfl dX7_rowRefusal_45 (hrI (Option.some.inj h))
        · replace h := ite_t c8 h
          refine AR.iconst (pc := 39) (v := 0) dX7_rowRefusal_39 (by decide) ?_
          refine AR.goto (pc := 40) (tgt := 45) dX7_rowRefusal_40 (by decide) ?_
          exact AR.iret (pc := 45) rfl dX7_rowRefusal_45 (hrI (Option.some.inj h))
      · replace h := ite_f c6 h
        refine AR.bipush (pc := 27) (v := (-11)) dX7_rowRefusal_27 (by decide) ?_
        exact AR.iret (pc := 29) rfl dX7_rowRefusal_29 (hrI (Option.some.inj h))
    · replace h := ite_t c4 h
      refine AR.bipush (pc := 16) (v := (-2)) dX7_rowRefusal_16 (by decide) ?_
      exact AR.iret (pc := 18) rfl dX7_rowRefusal_18 (hrI (Option.some.inj h))
  · replace h := ite_t c2 h
    refine AR.iconst (pc := 7) (v := (-1)) dX7_rowRefusal_7 (by decide) ?_
    exact AR.iret (pc := 8) rfl dX7_rowRefusal_8 (hrI (Option.some.inj h))
set_option maxHeartbeats 4000000 in
set_option maxRecDepth 100000 in
theorem A7_partRefusal {l : Launch} (x1 : Int32) (x2 : Int32) (x3 : Int32) (x4 : Int32) (σ : HS) (r : Int32 × HS) (h : f7_partRefusal x1 x2 x3 x4 σ = some r) : MA l yX7_partRefusal (wsU yX7_partRefusal cX7_partRefusal 6 (some .int)) rm7_partRefusal SC [.ref 1, .int x1, .int x2, .int x3, .int x4] σ (some (.int r.1), r.2) := by
  refine MA.of (L := [(0, .ref 1), (1, .int x1), (2, .int x2), (3, .int x3), (4, .int x4)]) pn_X7_partRefusal rfl (fun _ => Nat.le_of_ble_eq_true rfl) (fun _ => rfl) ?_
  unfold f7_partRefusal at h
  refine AR.aload_n (pc := 0) (j := 0) dX7_partRefusal_0 rfl rfl ?_
  refine AR.iload_n (pc := 1) (j := 1) dX7_partRefusal_1 rfl rfl ?_
  refine AR.iload_n (pc := 2) (j := 2) dX7_partRefusal_2 rfl rfl ?_
  obtain ⟨r1, h1, h⟩ := bd_some h
  refine AR.callV (pc := 3) (As := [.int x1, .int x2]) (st := []) (ci := 7) dX7_partRefusal_3 ⟨cd_X7_rowRefusal, im_X7_rowRefusal, se_X7_rowRefusal, ini_X7⟩ ml_X7_56 (A7_rowRefusal x1 x2 σ _ h1) ⟨rfl, pd_X7_rowRefusal⟩ ⟨Nat.le_of_ble_eq_true rfl, Nat.le_of_ble_eq_true rfl⟩ ⟨rfl, rfl⟩ rfl rfl rfl (Nat.le_of_ble_eq_true rfl) ?_
  refine AR.istore (pc := 6) (L2 := [(5, .int (r1.1)), (0, .ref 1), (1, .int x1), (2, .int x2), (3, .int x3), (4, .int x4)]) dX7_partRefusal_6 (by decide) rfl ?_
  refine AR.iload (pc := 8) (j := 0) dX7_partRefusal_8 rfl ?_
  refine AR.if_eq (pc := 10) (tgt := 16) dX7_partRefusal_10 (by decide) (fun c2 => ?_) (fun c2 => ?_)
  · replace h := ite_t c2 h
    refine AR.iload (pc := 16) (j := 5) dX7_partRefusal_16 rfl ?_
    refine AR.if_ge (pc := 18) (tgt := 24) dX7_partRefusal_18 (by decide) (fun c3 => ?_) (fun c3 => ?_)
    · replace h := ite_t c3 h
      refine AR.aload_n (pc := 24) (j := 1) dX7_partRefusal_24 rfl rfl ?_
      refine AR.iload_n (pc := 25) (j := 2) dX7_partRefusal_25 rfl rfl ?_
      refine AR.iload_n (pc := 26) (j := 4) dX7_partRefusal_26 rfl rfl ?_
      refine AR.iload (pc := 27) (j := 5) dX7_partRefusal_27 rfl ?_
      obtain ⟨r4, h4, h⟩ := bd_some h
      refine AR.callV (pc := 29) (As := [.int x1, .int x3, .int x4]) (st := []) (ci := 7) dX7_partRefusal_29 ⟨cd_X7_hasPart, im_X7_hasPart, se_X7_hasPart, ini_X7⟩ ml_X7_59 (A7_hasPart x1 x3 x4 (r1.2) _ h4) ⟨rfl, pd_X7_hasPart⟩ ⟨Nat.le_of_ble_eq_true rfl, Nat.le_of_ble_eq_true rfl⟩ ⟨rfl, rfl⟩ rfl rfl rfl (Nat.le_of_ble_eq_true rfl) ?_
      refine AR.if_eq (pc := 32) (tgt := 39) dX7_partRefusal_32 (by decide) (fun c5 => ?_) (fun c5 => ?_)
      · replace h := ite_t c5 h
        refine AR.bipush (pc := 39) (v := (-13)) dX7_partRefusal_39 (by decide) ?_
        exact AR.iret (pc := 41) rfl dX7_partRefusal_41 (hrI (Option.some.inj h))
      · replace h := ite_f c5 h
        refine AR.iconst (pc := 35) (v := 0) dX7_partRefusal_35 (by decide) ?_
        refine AR.goto (pc := 36) (tgt := 41) dX7_partRefusal_36 (by decide) ?_
        exact AR.iret (pc := 41) rfl dX7_partRefusal_41 (hrI (Option.some.inj h))
    · replace h := ite_f c3 h
      refine AR.bipush (pc := 21) (v := (-14)) dX7_partRefusal_21 (by decide) ?_
      exact AR.iret (pc := 23) rfl dX7_partRefusal_23 (hrI (Option.some.inj h))
  · replace h := ite_f c2 h
    refine AR.iload (pc := 13) (j := 0) dX7_partRefusal_13 rfl ?_
    exact AR.iret (pc := 15) rfl dX7_partRefusal_15 (hrI (Option.some.inj h))
set_option maxHeartbeats 4000000 in
set_option maxRecDepth 100000 in
theorem A8_told_31 {l : Launch} (x1 : Int32) (z0 : Int32) (σ : HS) (r : Int32 × HS) (h : f8_told_31 x1 z0 σ = some r) : AR l RX8 cX8_told 3 (some .int) (wsU yX8_told cX8_told 3 (some .int)) rm8_told SC 31 [(1, .int x1)] [.int z0, .ref 0] σ (some (.int r.1), r.2) := by
  unfold f8_told_31 at h
  refine AR.putI (pc := 31) (ci := 8) (j := 13) (T := TX8) (ty0 := tyX8) (ty := .int) dX8_told_31 rfl rfl rfl (by decide) (fun w hw => wsU_in (uw_X8 w hw)) tyX8_ok nmX8 (wsU_in fl_X8_19) rfl (by decide +kernel) rfl rfl ?_
  refine AR.iload_n (pc := 34) (j := 0) dX8_told_34 rfl rfl ?_
  exact AR.iret (pc := 35) rfl dX8_told_35 (hrI (Option.some.inj h))
set_option maxHeartbeats 4000000 in
set_option maxRecDepth 100000 in
theorem A8_told_17 {l : Launch} (x1 : Int32) (z0 : Int32) (σ : HS) (r : Int32 × HS) (h : f8_told_17 x1 z0 σ = some r) : AR l RX8 cX8_told 3 (some .int) (wsU yX8_told cX8_told 3 (some .int)) rm8_told SC 17 [(0, .ref 0), (1, .int x1)] [.int z0] σ (some (.int r.1), r.2) := by
  unfold f8_told_17 at h
  refine AR.istore_n (pc := 17) (L2 := [(2, .int z0), (0, .ref 0), (1, .int x1)]) dX8_told_17 rfl (by decide) rfl ?_
  refine AR.aload_n (pc := 18) (j := 1) dX8_told_18 rfl rfl ?_
  refine AR.iload_n (pc := 19) (j := 0) dX8_told_19 rfl rfl ?_
  refine AR.if_eq (pc := 20) (tgt := 30) dX8_told_20 (by decide) (fun c1 => ?_) (fun c1 => ?_)
  · replace h := ite_t c1 h
    refine AR.iconst (pc := 30) (v := 0) dX8_told_30 (by decide) ?_
    exact AR.pick [2] rfl (A8_told_31 x1 0 σ r h)
  · replace h := ite_f c1 h
    refine AR.bipush (pc := 23) (v := (-10)) dX8_told_23 (by decide) ?_
    refine AR.iload_n (pc := 25) (j := 2) dX8_told_25 rfl rfl ?_
    refine AR.isub (pc := 26) dX8_told_26 ?_
    refine AR.goto (pc := 27) (tgt := 31) dX8_told_27 (by decide) ?_
    exact AR.pick [2] rfl (A8_told_31 x1 ((-10) - x1) σ r h)
set_option maxHeartbeats 4000000 in
set_option maxRecDepth 100000 in
theorem A8_told_16 {l : Launch} (x1 : Int32) (σ : HS) (r : Int32 × HS) (h : f8_told_16 x1 σ = some r) : AR l RX8 cX8_told 3 (some .int) (wsU yX8_told cX8_told 3 (some .int)) rm8_told SC 16 [(0, .ref 0), (1, .int x1)] [] σ (some (.int r.1), r.2) := by
  unfold f8_told_16 at h
  refine AR.iconst (pc := 16) (v := 0) dX8_told_16 (by decide) ?_
  exact AR.pick [0, 1] rfl (A8_told_17 x1 0 σ r h)
set_option maxHeartbeats 4000000 in
set_option maxRecDepth 100000 in
theorem A8_told {l : Launch} (x1 : Int32) (σ : HS) (r : Int32 × HS) (h : f8_told x1 σ = some r) : MA l yX8_told (wsU yX8_told cX8_told 3 (some .int)) rm8_told SC [.ref 0, .int x1] σ (some (.int r.1), r.2) := by
  refine MA.of (L := [(0, .ref 0), (1, .int x1)]) pn_X8_told rfl (fun _ => Nat.le_of_ble_eq_true rfl) (fun _ => rfl) ?_
  unfold f8_told at h
  refine AR.iload_n (pc := 0) (j := 1) dX8_told_0 rfl rfl ?_
  refine AR.bipush (pc := 1) (v := (-11)) dX8_told_1 (by decide) ?_
  refine AR.icmp_gt (pc := 3) (tgt := 16) dX8_told_3 (by decide) (fun c1 => ?_) (fun c1 => ?_)
  · replace h := ite_t c1 h
    exact AR.pick [0, 1] rfl (A8_told_16 x1 σ r h)
  · replace h := ite_f c1 h
    refine AR.iload_n (pc := 6) (j := 1) dX8_told_6 rfl rfl ?_
    refine AR.bipush (pc := 7) (v := (-14)) dX8_told_7 (by decide) ?_
    refine AR.icmp_lt (pc := 9) (tgt := 16) dX8_told_9 (by decide) (fun c2 => ?_) (fun c2 => ?_)
    · replace h := ite_t c2 h
      exact AR.pick [0, 1] rfl (A8_told_16 x1 σ r h)
    · replace h := ite_f c2 h
      refine AR.iconst (pc := 12) (v := 1) dX8_told_12 (by decide) ?_
      refine AR.goto (pc := 13) (tgt := 17) dX8_told_13 (by decide) ?_
      exact AR.pick [0, 1] rfl (A8_told_17 x1 1 σ r h)
set_option maxHeartbeats 4000000 in
set_option maxRecDepth 100000 in
theorem A8_forgetWhatWas {l : Launch} (σ : HS) (r : HS) (h : f8_forgetWhatWas σ = some r) : MA l yX8_forgetWhatWas (wsU yX8_forgetWhatWas cX8_forgetWhatWas 1 none) rm8_forgetWhatWas SC [.ref 0] σ (none, r) := by
  refine MA.of (L := [(0, .ref 0)]) pn_X8_forgetWhatWas rfl (fun _ => Nat.le_of_ble_eq_true rfl) (fun _ => rfl) ?_
  unfold f8_forgetWhatWas at h
  refine AR.aload_n (pc := 0) (j := 0) dX8_forgetWhatWas_0 rfl rfl ?_
  refine AR.iconst (pc := 1) (v := 0) dX8_forgetWhatWas_1 (by decide) ?_
  refine AR.putI (pc := 2) (ci := 8) (j := 11) (T := TX8) (ty0 := tyX8) (ty := .boolean) dX8_forgetWhatWas_2 rfl rfl rfl (by decide) (fun w hw => wsU_in (uw_X8 w hw)) tyX8_ok nmX8 (wsU_in fl_X8_11) rfl (by decide +kernel) rfl rfl ?_
  refine AR.aload_n (pc := 5) (j := 0) dX8_forgetWhatWas_5 rfl rfl ?_
  refine AR.getf (pc := 6) (ci := 8) (j := 10) (d := 44 + 2) (v := .ref 44) (T := TX8) dX8_forgetWhatWas_6 rfl rfl rfl (by decide) (fun w hw => wsU_in (uw_X8 w hw)) (wsU_in fl_X8_97) rfl ?_
  obtain ⟨r1, h1, h⟩ := bd_some h
  refine AR.callVN (pc := 9) (As := []) (st := []) (ci := 3) dX8_forgetWhatWas_9 ⟨cd_X3_forget, im_X3_forget, se_X3_forget, ini_X3⟩ mn_X8_167 (A3_forget (uI σ 0 11 0) _ h1) ⟨rfl, pd_X3_forget⟩ ⟨Nat.le_of_ble_eq_true rfl, Nat.le_of_ble_eq_true rfl⟩ ⟨rfl, rfl⟩ rfl rfl rfl (Nat.le_of_ble_eq_true rfl) ?_
  refine AR.aload_n (pc := 12) (j := 0) dX8_forgetWhatWas_12 rfl rfl ?_
  refine AR.getf (pc := 13) (ci := 8) (j := 9) (d := 40 + 2) (v := .ref 40) (T := TX8) dX8_forgetWhatWas_13 rfl rfl rfl (by decide) (fun w hw => wsU_in (uw_X8 w hw)) (wsU_in fl_X8_88) rfl ?_
  obtain ⟨r2, h2, h⟩ := bd_some h
  refine AR.callVN (pc := 16) (As := []) (st := []) (ci := 2) dX8_forgetWhatWas_16 ⟨cd_X2_clear, im_X2_clear, se_X2_clear, ini_X2⟩ mn_X8_170 (A2_clear r1 _ h2) ⟨rfl, pd_X2_clear⟩ ⟨Nat.le_of_ble_eq_true rfl, Nat.le_of_ble_eq_true rfl⟩ ⟨rfl, rfl⟩ rfl rfl rfl (Nat.le_of_ble_eq_true rfl) ?_
  exact AR.vret (pc := 19) rfl dX8_forgetWhatWas_19 (hrV (Option.some.inj h))
set_option maxHeartbeats 4000000 in
set_option maxRecDepth 100000 in
theorem A8_council {l : Launch} (x1 : Int32) (x2 : Int32) (x3 : Int32) (x4 : Int32) (σ : HS) (r : Int32 × HS) (h : f8_council x1 x2 x3 x4 σ = some r) : MA l yX8_council (wsU yX8_council cX8_council 7 (some .int)) rm8_council SC [.ref 0, .int x1, .int x2, .int x3, .int x4] σ (some (.int r.1), r.2) := by
  refine MA.of (L := [(0, .ref 0), (1, .int x1), (2, .int x2), (3, .int x3), (4, .int x4)]) pn_X8_council rfl (fun _ => Nat.le_of_ble_eq_true rfl) (fun _ => rfl) ?_
  unfold f8_council at h
  refine AR.aload_n (pc := 0) (j := 0) dX8_council_0 rfl rfl ?_
  refine AR.getf (pc := 1) (ci := 8) (j := 0) (d := 1 + 2) (v := .ref 1) (T := TX8) dX8_council_1 rfl rfl rfl (by decide) (fun w hw => wsU_in (uw_X8 w hw)) (wsU_in fl_X8_25) rfl ?_
  refine AR.iload_n (pc := 4) (j := 1) dX8_council_4 rfl rfl ?_
  refine AR.iload_n (pc := 5) (j := 2) dX8_council_5 rfl rfl ?_
  refine AR.iload_n (pc := 6) (j := 3) dX8_council_6 rfl rfl ?_
  refine AR.iload (pc := 7) (j := 4) dX8_council_7 rfl ?_
  obtain ⟨r1, h1, h⟩ := bd_some h
  refine AR.callVN (pc := 9) (As := [.int x1, .int x2, .int x3, .int x4]) (st := []) (ci := 7) dX8_council_9 ⟨cd_X7_partRefusal, im_X7_partRefusal, se_X7_partRefusal, ini_X7⟩ mn_X8_105 (A7_partRefusal x1 x2 x3 x4 σ _ h1) ⟨rfl, pd_X7_partRefusal⟩ ⟨Nat.le_of_ble_eq_true rfl, Nat.le_of_ble_eq_true rfl⟩ ⟨rfl, rfl⟩ rfl rfl rfl (Nat.le_of_ble_eq_true rfl) ?_
  refine AR.istore (pc := 12) (L2 := [(5, .int (r1.1)), (0, .ref 0), (1, .int x1), (2, .int x2), (3, .int x3), (4, .int x4)]) dX8_council_12 (by decide) rfl ?_
  refine AR.iload (pc := 14) (j := 0) dX8_council_14 rfl ?_
  refine AR.if_eq (pc := 16) (tgt := 26) dX8_council_16 (by decide) (fun c2 => ?_) (fun c2 => ?_)
  · replace h := ite_t c2 h
    refine AR.aload_n (pc := 26) (j := 1) dX8_council_26 rfl rfl ?_
    refine AR.getf (pc := 27) (ci := 8) (j := 2) (d := 19 + 2) (v := .ref 19) (T := TX8) dX8_council_27 rfl rfl rfl (by decide) (fun w hw => wsU_in (uw_X8 w hw)) (wsU_in fl_X8_45) rfl ?_
    refine AR.iload_n (pc := 30) (j := 2) dX8_council_30 rfl rfl ?_
    refine AR.iload_n (pc := 31) (j := 4) dX8_council_31 rfl rfl ?_
    obtain ⟨r3, h3, h⟩ := bd_some h
    refine AR.callSN (pc := 32) (As := [.int x1, .int x3]) (st := [.ref 19]) dX8_council_32 ⟨cd_X7_placeOf, sm_X7_placeOf, ini_X7⟩ mn_X8_113 (A7_placeOf x1 x3 (r1.2) _ h3) pd_X7_placeOf ⟨Nat.le_of_ble_eq_true rfl, Nat.le_of_ble_eq_true rfl⟩ ⟨rfl, rfl⟩ rfl (Nat.le_of_ble_eq_true rfl) ?_
    refine AR.iload (pc := 35) (j := 5) dX8_council_35 rfl ?_
    obtain ⟨r4, h4, h⟩ := bd_some h
    refine AR.callVN (pc := 37) (As := [.int (r3.1), .int x4]) (st := []) (ci := 6) dX8_council_37 ⟨cd_X6_firstFault, im_X6_firstFault, se_X6_firstFault, ini_X6⟩ mn_X8_117 (A6_firstFault (r3.1) x4 (r3.2) _ h4) ⟨rfl, pd_X6_firstFault⟩ ⟨Nat.le_of_ble_eq_true rfl, Nat.le_of_ble_eq_true rfl⟩ ⟨rfl, rfl⟩ rfl rfl rfl (Nat.le_of_ble_eq_true rfl) ?_
    refine AR.istore (pc := 40) (L2 := [(6, .int (r4.1)), (5, .int (r1.1)), (0, .ref 0), (1, .int x1), (2, .int x2), (3, .int x3), (4, .int x4)]) dX8_council_40 (by decide) rfl ?_
    refine AR.iload (pc := 42) (j := 0) dX8_council_42 rfl ?_
    refine AR.if_lt (pc := 44) (tgt := 57) dX8_council_44 (by decide) (fun c5 => ?_) (fun c5 => ?_)
    · replace h := ite_t c5 h
      refine AR.aload_n (pc := 57) (j := 2) dX8_council_57 rfl rfl ?_
      refine AR.getf (pc := 58) (ci := 8) (j := 1) (d := 5 + 2) (v := .ref 5) (T := TX8) dX8_council_58 rfl rfl rfl (by decide) (fun w hw => wsU_in (uw_X8 w hw)) (wsU_in fl_X8_32) rfl ?_
      refine AR.aload_n (pc := 61) (j := 2) dX8_council_61 rfl rfl ?_
      refine AR.getf (pc := 62) (ci := 8) (j := 2) (d := 19 + 2) (v := .ref 19) (T := TX8) dX8_council_62 rfl rfl rfl (by decide) (fun w hw => wsU_in (uw_X8 w hw)) (wsU_in fl_X8_45) rfl ?_
      refine AR.getfN (pc := 65) (ci := 6) (j := 1) (d := 12 + 2) (v := .ref 12) (T := TX6) dX8_council_65 rfl rfl rfl (by decide) (fun w hw => wsU_in (uw_X6 w hw)) fn_X8_120 rfl ?_
      obtain ⟨r6, h6, h⟩ := bd_some h
      refine AR.callVN (pc := 68) (As := [.ref 12]) (st := []) (ci := 4) dX8_council_68 ⟨cd_X4_become, im_X4_become, se_X4_become, ini_X4⟩ mn_X8_123 (A4_become (r4.2) _ h6) ⟨rfl, pd_X4_become⟩ ⟨Nat.le_of_ble_eq_true rfl, Nat.le_of_ble_eq_true rfl⟩ ⟨rfl, rfl⟩ rfl rfl rfl (Nat.le_of_ble_eq_true rfl) ?_
      refine AR.aload_n (pc := 71) (j := 2) dX8_council_71 rfl rfl ?_
      refine AR.getf (pc := 72) (ci := 8) (j := 3) (d := 20 + 2) (v := .ref 20) (T := TX8) dX8_council_72 rfl rfl rfl (by decide) (fun w hw => wsU_in (uw_X8 w hw)) (wsU_in fl_X8_54) rfl ?_
      obtain ⟨r7, h7, h⟩ := bd_some h
      refine AR.callVN (pc := 75) (As := []) (st := []) (ci := 0) dX8_council_75 ⟨cd_X0_beginAnew, im_X0_beginAnew, se_X0_beginAnew, ini_X0⟩ mn_X8_126 (A0_beginAnew r6 _ h7) ⟨rfl, pd_X0_beginAnew⟩ ⟨Nat.le_of_ble_eq_true rfl, Nat.le_of_ble_eq_true rfl⟩ ⟨rfl, rfl⟩ rfl rfl rfl (Nat.le_of_ble_eq_true rfl) ?_
      refine AR.aload_n (pc := 78) (j := 2) dX8_council_78 rfl rfl ?_
      obtain ⟨r8, h8, h⟩ := bd_some h
      refine AR.callV (pc := 79) (As := []) (st := []) (ci := 8) dX8_council_79 ⟨cd_X8_forgetWhatWas, im_X8_forgetWhatWas, se_X8_forgetWhatWas, ini_X8⟩ ml_X8_129 (A8_forgetWhatWas r7 _ h8) ⟨rfl, pd_X8_forgetWhatWas⟩ ⟨Nat.le_of_ble_eq_true rfl, Nat.le_of_ble_eq_true rfl⟩ ⟨rfl, rfl⟩ rfl rfl rfl (Nat.le_of_ble_eq_true rfl) ?_
      refine AR.aload_n (pc := 82) (j := 2) dX8_council_82 rfl rfl ?_
      refine AR.aload_n (pc := 83) (j := 2) dX8_council_83 rfl rfl ?_
      refine AR.getf (pc := 84) (ci := 8) (j := 1) (d := 5 + 2) (v := .ref 5) (T := TX8) dX8_council_84 rfl rfl rfl (by decide) (fun w hw => wsU_in (uw_X8 w hw)) (wsU_in fl_X8_32) rfl ?_
      refine AR.getfN (pc := 87) (ci := 4) (j := 0) (d := 0) (v := .int (r8.1 5 0)) (T := TX4) dX8_council_87 rfl rfl rfl (by decide) (fun w hw => wsU_in (uw_X4 w hw)) fn_X8_132 rfl ?_
      obtain ⟨r9, h9, h⟩ := bd_some h
      refine AR.callV (pc := 90) (As := [.int (r8.1 5 0)]) (st := []) (ci := 8) dX8_council_90 ⟨cd_X8_told, im_X8_told, se_X8_told, ini_X8⟩ ml_X8_109 (A8_told (r8.1 5 0) r8 _ h9) ⟨rfl, pd_X8_told⟩ ⟨Nat.le_of_ble_eq_true rfl, Nat.le_of_ble_eq_true rfl⟩ ⟨rfl, rfl⟩ rfl rfl rfl (Nat.le_of_ble_eq_true rfl) ?_
      exact AR.iret (pc := 93) rfl dX8_council_93 (hrI (Option.some.inj h))
    · replace h := ite_f c5 h
      refine AR.aload_n (pc := 47) (j := 2) dX8_council_47 rfl rfl ?_
      refine AR.bipush (pc := 48) (v := (-100)) dX8_council_48 (by decide) ?_
      refine AR.iload (pc := 50) (j := 0) dX8_council_50 rfl ?_
      refine AR.isub (pc := 52) dX8_council_52 ?_
      obtain ⟨r10, h10, h⟩ := bd_some h
      refine AR.callV (pc := 53) (As := [.int ((-100) - (r4.1))]) (st := []) (ci := 8) dX8_council_53 ⟨cd_X8_told, im_X8_told, se_X8_told, ini_X8⟩ ml_X8_109 (A8_told ((-100) - (r4.1)) (r4.2) _ h10) ⟨rfl, pd_X8_told⟩ ⟨Nat.le_of_ble_eq_true rfl, Nat.le_of_ble_eq_true rfl⟩ ⟨rfl, rfl⟩ rfl rfl rfl (Nat.le_of_ble_eq_true rfl) ?_
      exact AR.iret (pc := 56) rfl dX8_council_56 (hrI (Option.some.inj h))
  · replace h := ite_f c2 h
    refine AR.aload_n (pc := 19) (j := 1) dX8_council_19 rfl rfl ?_
    refine AR.iload (pc := 20) (j := 0) dX8_council_20 rfl ?_
    obtain ⟨r11, h11, h⟩ := bd_some h
    refine AR.callV (pc := 22) (As := [.int (r1.1)]) (st := []) (ci := 8) dX8_council_22 ⟨cd_X8_told, im_X8_told, se_X8_told, ini_X8⟩ ml_X8_109 (A8_told (r1.1) (r1.2) _ h11) ⟨rfl, pd_X8_told⟩ ⟨Nat.le_of_ble_eq_true rfl, Nat.le_of_ble_eq_true rfl⟩ ⟨rfl, rfl⟩ rfl rfl rfl (Nat.le_of_ble_eq_true rfl) ?_
    exact AR.iret (pc := 25) rfl dX8_council_25 (hrI (Option.some.inj h))
set_option maxHeartbeats 4000000 in
set_option maxRecDepth 100000 in
theorem A8_law {l : Launch} (x1 : Int32) (σ : HS) (r : Int32 × HS) (h : f8_law x1 σ = some r) : MA l yX8_law (wsU yX8_law cX8_law 3 (some .int)) rm8_law SC [.ref 0, .int x1] σ (some (.int r.1), r.2) := by
  refine MA.of (L := [(0, .ref 0), (1, .int x1)]) pn_X8_law rfl (fun _ => Nat.le_of_ble_eq_true rfl) (fun _ => rfl) ?_
  unfold f8_law at h
  refine AR.iload_n (pc := 0) (j := 1) dX8_law_0 rfl rfl ?_
  refine AR.if_lt (pc := 1) (tgt := 9) dX8_law_1 (by decide) (fun c1 => ?_) (fun c1 => ?_)
  · replace h := ite_t c1 h
    refine AR.bipush (pc := 9) (v := (-2)) dX8_law_9 (by decide) ?_
    exact AR.iret (pc := 11) rfl dX8_law_11 (hrI (Option.some.inj h))
  · replace h := ite_f c1 h
    refine AR.iload_n (pc := 4) (j := 1) dX8_law_4 rfl rfl ?_
    refine AR.iconst (pc := 5) (v := 4) dX8_law_5 (by decide) ?_
    refine AR.icmp_lt (pc := 6) (tgt := 12) dX8_law_6 (by decide) (fun c2 => ?_) (fun c2 => ?_)
    · replace h := ite_t c2 h
      refine AR.aload_n (pc := 12) (j := 0) dX8_law_12 rfl rfl ?_
      refine AR.getf (pc := 13) (ci := 8) (j := 1) (d := 5 + 2) (v := .ref 5) (T := TX8) dX8_law_13 rfl rfl rfl (by decide) (fun w hw => wsU_in (uw_X8 w hw)) (wsU_in fl_X8_32) rfl ?_
      refine AR.getfN (pc := 16) (ci := 4) (j := 0) (d := 0) (v := .int (σ.1 5 0)) (T := TX4) dX8_law_16 rfl rfl rfl (by decide) (fun w hw => wsU_in (uw_X4 w hw)) fn_X8_132 rfl ?_
      refine AR.if_ne (pc := 19) (tgt := 25) dX8_law_19 (by decide) (fun c3 => ?_) (fun c3 => ?_)
      · replace h := ite_f c3 h
        refine AR.aload_n (pc := 25) (j := 0) dX8_law_25 rfl rfl ?_
        refine AR.getf (pc := 26) (ci := 8) (j := 3) (d := 20 + 2) (v := .ref 20) (T := TX8) dX8_law_26 rfl rfl rfl (by decide) (fun w hw => wsU_in (uw_X8 w hw)) (wsU_in fl_X8_54) rfl ?_
        refine AR.getfN (pc := 29) (ci := 0) (j := 2) (d := 0) (v := .int (σ.1 20 2)) (T := TX0) dX8_law_29 rfl rfl rfl (by decide) (fun w hw => wsU_in (uw_X0 w hw)) fn_X8_160 rfl ?_
        refine AR.istore_n (pc := 32) (L2 := [(2, .int (σ.1 20 2)), (0, .ref 0), (1, .int x1)]) dX8_law_32 rfl (by decide) rfl ?_
        refine AR.aload_n (pc := 33) (j := 1) dX8_law_33 rfl rfl ?_
        refine AR.getf (pc := 34) (ci := 8) (j := 3) (d := 20 + 2) (v := .ref 20) (T := TX8) dX8_law_34 rfl rfl rfl (by decide) (fun w hw => wsU_in (uw_X8 w hw)) (wsU_in fl_X8_54) rfl ?_
        refine AR.iload_n (pc := 37) (j := 2) dX8_law_37 rfl rfl ?_
        refine AR.putIN (pc := 38) (ci := 0) (j := 2) (T := TX0) (ty0 := tyX0) (ty := .int) dX8_law_38 rfl rfl rfl (by decide) (fun w hw => wsU_in (uw_X0 w hw)) tyX0_ok nmX0 fn_X8_160 rfl (by decide +kernel) rfl rfl ?_
        refine AR.aload_n (pc := 41) (j := 1) dX8_law_41 rfl rfl ?_
        obtain ⟨r4, h4, h⟩ := bd_some h
        refine AR.callV (pc := 42) (As := []) (st := []) (ci := 8) dX8_law_42 ⟨cd_X8_forgetWhatWas, im_X8_forgetWhatWas, se_X8_forgetWhatWas, ini_X8⟩ ml_X8_129 (A8_forgetWhatWas (uI σ 20 2 x1) _ h4) ⟨rfl, pd_X8_forgetWhatWas⟩ ⟨Nat.le_of_ble_eq_true rfl, Nat.le_of_ble_eq_true rfl⟩ ⟨rfl, rfl⟩ rfl rfl rfl (Nat.le_of_ble_eq_true rfl) ?_
        refine AR.iload_n (pc := 45) (j := 0) dX8_law_45 rfl rfl ?_
        exact AR.iret (pc := 46) rfl dX8_law_46 (hrI (Option.some.inj h))
      · replace h := ite_t c3 h
        refine AR.bipush (pc := 22) (v := (-3)) dX8_law_22 (by decide) ?_
        exact AR.iret (pc := 24) rfl dX8_law_24 (hrI (Option.some.inj h))
    · replace h := ite_f c2 h
      refine AR.bipush (pc := 9) (v := (-2)) dX8_law_9 (by decide) ?_
      exact AR.iret (pc := 11) rfl dX8_law_11 (hrI (Option.some.inj h))
set_option maxHeartbeats 4000000 in
set_option maxRecDepth 100000 in
theorem A8_swap {l : Launch} (x1 : Int32) (x2 : Int32) (σ : HS) (r : Int32 × HS) (h : f8_swap x1 x2 σ = some r) : MA l yX8_swap (wsU yX8_swap cX8_swap 3 (some .int)) rm8_swap SC [.ref 0, .int x1, .int x2] σ (some (.int r.1), r.2) := by
  refine MA.of (L := [(0, .ref 0), (1, .int x1), (2, .int x2)]) pn_X8_swap rfl (fun _ => Nat.le_of_ble_eq_true rfl) (fun _ => rfl) ?_
  unfold f8_swap at h
  refine AR.aload_n (pc := 0) (j := 0) dX8_swap_0 rfl rfl ?_
  refine AR.getf (pc := 1) (ci := 8) (j := 1) (d := 5 + 2) (v := .ref 5) (T := TX8) dX8_swap_1 rfl rfl rfl (by decide) (fun w hw => wsU_in (uw_X8 w hw)) (wsU_in fl_X8_32) rfl ?_
  refine AR.iload_n (pc := 4) (j := 1) dX8_swap_4 rfl rfl ?_
  obtain ⟨r1, h1, h⟩ := bd_some h
  refine AR.callVN (pc := 5) (As := [.int x1]) (st := []) (ci := 4) dX8_swap_5 ⟨cd_X4_has, im_X4_has, se_X4_has, ini_X4⟩ mn_X8_135 (A4_has x1 σ _ h1) ⟨rfl, pd_X4_has⟩ ⟨Nat.le_of_ble_eq_true rfl, Nat.le_of_ble_eq_true rfl⟩ ⟨rfl, rfl⟩ rfl rfl rfl (Nat.le_of_ble_eq_true rfl) ?_
  refine AR.if_eq (pc := 8) (tgt := 22) dX8_swap_8 (by decide) (fun c2 => ?_) (fun c2 => ?_)
  · replace h := ite_t c2 h
    refine AR.iconst (pc := 22) (v := (-1)) dX8_swap_22 (by decide) ?_
    exact AR.iret (pc := 23) rfl dX8_swap_23 (hrI (Option.some.inj h))
  · replace h := ite_f c2 h
    refine AR.aload_n (pc := 11) (j := 0) dX8_swap_11 rfl rfl ?_
    refine AR.getf (pc := 12) (ci := 8) (j := 1) (d := 5 + 2) (v := .ref 5) (T := TX8) dX8_swap_12 rfl rfl rfl (by decide) (fun w hw => wsU_in (uw_X8 w hw)) (wsU_in fl_X8_32) rfl ?_
    refine AR.iload_n (pc := 15) (j := 2) dX8_swap_15 rfl rfl ?_
    obtain ⟨r3, h3, h⟩ := bd_some h
    refine AR.callVN (pc := 16) (As := [.int x2]) (st := []) (ci := 4) dX8_swap_16 ⟨cd_X4_has, im_X4_has, se_X4_has, ini_X4⟩ mn_X8_135 (A4_has x2 (r1.2) _ h3) ⟨rfl, pd_X4_has⟩ ⟨Nat.le_of_ble_eq_true rfl, Nat.le_of_ble_eq_true rfl⟩ ⟨rfl, rfl⟩ rfl rfl rfl (Nat.le_of_ble_eq_true rfl) ?_
    refine AR.if_ne (pc := 19) (tgt := 24) dX8_swap_19 (by decide) (fun c4 => ?_) (fun c4 => ?_)
    · replace h := ite_f c4 h
      refine AR.aload_n (pc := 24) (j := 0) dX8_swap_24 rfl rfl ?_
      refine AR.getf (pc := 25) (ci := 8) (j := 3) (d := 20 + 2) (v := .ref 20) (T := TX8) dX8_swap_25 rfl rfl rfl (by decide) (fun w hw => wsU_in (uw_X8 w hw)) (wsU_in fl_X8_54) rfl ?_
      refine AR.aload_n (pc := 28) (j := 0) dX8_swap_28 rfl rfl ?_
      refine AR.getf (pc := 29) (ci := 8) (j := 3) (d := 20 + 2) (v := .ref 20) (T := TX8) dX8_swap_29 rfl rfl rfl (by decide) (fun w hw => wsU_in (uw_X8 w hw)) (wsU_in fl_X8_54) rfl ?_
      refine AR.iload_n (pc := 32) (j := 1) dX8_swap_32 rfl rfl ?_
      obtain ⟨r5, h5, h⟩ := bd_some h
      refine AR.callVN (pc := 33) (As := [.int x1]) (st := [.ref 20]) (ci := 0) dX8_swap_33 ⟨cd_X0_placeOf, im_X0_placeOf, se_X0_placeOf, ini_X0⟩ mn_X8_145 (A0_placeOf x1 (r3.2) _ h5) ⟨rfl, pd_X0_placeOf⟩ ⟨Nat.le_of_ble_eq_true rfl, Nat.le_of_ble_eq_true rfl⟩ ⟨rfl, rfl⟩ rfl rfl rfl (Nat.le_of_ble_eq_true rfl) ?_
      refine AR.aload_n (pc := 36) (j := 0) dX8_swap_36 rfl rfl ?_
      refine AR.getf (pc := 37) (ci := 8) (j := 3) (d := 20 + 2) (v := .ref 20) (T := TX8) dX8_swap_37 rfl rfl rfl (by decide) (fun w hw => wsU_in (uw_X8 w hw)) (wsU_in fl_X8_54) rfl ?_
      refine AR.iload_n (pc := 40) (j := 2) dX8_swap_40 rfl rfl ?_
      obtain ⟨r6, h6, h⟩ := bd_some h
      refine AR.callVN (pc := 41) (As := [.int x2]) (st := [.int (r5.1), .ref 20]) (ci := 0) dX8_swap_41 ⟨cd_X0_placeOf, im_X0_placeOf, se_X0_placeOf, ini_X0⟩ mn_X8_145 (A0_placeOf x2 (r5.2) _ h6) ⟨rfl, pd_X0_placeOf⟩ ⟨Nat.le_of_ble_eq_true rfl, Nat.le_of_ble_eq_true rfl⟩ ⟨rfl, rfl⟩ rfl rfl rfl (Nat.le_of_ble_eq_true rfl) ?_
      obtain ⟨r7, h7, h⟩ := bd_some h
      refine AR.callVN (pc := 44) (As := [.int (r5.1), .int (r6.1)]) (st := []) (ci := 0) dX8_swap_44 ⟨cd_X0_exchange, im_X0_exchange, se_X0_exchange, ini_X0⟩ mn_X8_163 (A0_exchange 20 grp20 (r5.1) (r6.1) (r6.2) _ h7) ⟨rfl, pd_X0_exchange⟩ ⟨Nat.le_of_ble_eq_true rfl, Nat.le_of_ble_eq_true rfl⟩ ⟨rfl, rfl⟩ rfl rfl rfl (Nat.le_of_ble_eq_true rfl) ?_
      refine AR.aload_n (pc := 47) (j := 0) dX8_swap_47 rfl rfl ?_
      obtain ⟨r8, h8, h⟩ := bd_some h
      refine AR.callV (pc := 48) (As := []) (st := []) (ci := 8) dX8_swap_48 ⟨cd_X8_forgetWhatWas, im_X8_forgetWhatWas, se_X8_forgetWhatWas, ini_X8⟩ ml_X8_129 (A8_forgetWhatWas r7 _ h8) ⟨rfl, pd_X8_forgetWhatWas⟩ ⟨Nat.le_of_ble_eq_true rfl, Nat.le_of_ble_eq_true rfl⟩ ⟨rfl, rfl⟩ rfl rfl rfl (Nat.le_of_ble_eq_true rfl) ?_
      refine AR.iconst (pc := 51) (v := 1) dX8_swap_51 (by decide) ?_
      exact AR.iret (pc := 52) rfl dX8_swap_52 (hrI (Option.some.inj h))
    · replace h := ite_t c4 h
      refine AR.iconst (pc := 22) (v := (-1)) dX8_swap_22 (by decide) ?_
      exact AR.iret (pc := 23) rfl dX8_swap_23 (hrI (Option.some.inj h))
set_option maxHeartbeats 4000000 in
set_option maxRecDepth 100000 in
theorem A8_areWords_60 {l : Launch} (k3 : Int32 × HS → Option (Int32 × HS)) (x1 : Int32) (x2 : Int32) (x3 : Int32) (x4 : Int32) (hk3 : ∀ (p : Int32 × HS) (r : Int32 × HS), k3 p = some r → AR l RX8 cX8_areWords 6 (some .boolean) (wsU yX8_areWords cX8_areWords 6 (some .boolean)) rm8_areWords SC 3 [(0, .ref 0), (1, .int x1), (2, .int x2), (3, .int x3), (4, .int (p.1))] [] p.2 (some (.int r.1), r.2)) (σ : HS) (r : Int32 × HS) (h : f8_areWords_60 k3 x1 x2 x3 x4 σ = some r) : AR l RX8 cX8_areWords 6 (some .boolean) (wsU yX8_areWords cX8_areWords 6 (some .boolean)) rm8_areWords SC 60 [(0, .ref 0), (1, .int x1), (2, .int x2), (3, .int x3), (4, .int x4)] [] σ (some (.int r.1), r.2) := by
  unfold f8_areWords_60 at h
  refine AR.iinc (pc := 60) (j := 4) (v := (x4 + 1)) (L2 := [(4, .int (x4 + 1)), (0, .ref 0), (1, .int x1), (2, .int x2), (3, .int x3)]) dX8_areWords_60 rfl rfl (by decide) rfl ?_
  refine AR.goto (pc := 63) (tgt := 3) dX8_areWords_63 (by decide) ?_
  exact AR.pick [1, 2, 3, 4, 0] rfl (hk3 ((x4 + 1), σ) r h)
set_option maxHeartbeats 4000000 in
set_option maxRecDepth 100000 in
theorem A8_areWords_3_b {l : Launch} (k3 : Int32 × HS → Option (Int32 × HS)) (x1 : Int32) (x2 : Int32) (x3 : Int32) (x4 : Int32) (hk3 : ∀ (p : Int32 × HS) (r : Int32 × HS), k3 p = some r → AR l RX8 cX8_areWords 6 (some .boolean) (wsU yX8_areWords cX8_areWords 6 (some .boolean)) rm8_areWords SC 3 [(0, .ref 0), (1, .int x1), (2, .int x2), (3, .int x3), (4, .int (p.1))] [] p.2 (some (.int r.1), r.2)) (σ : HS) (r : Int32 × HS) (h : f8_areWords_3_b k3 x1 x2 x3 x4 σ = some r) : AR l RX8 cX8_areWords 6 (some .boolean) (wsU yX8_areWords cX8_areWords 6 (some .boolean)) rm8_areWords SC 3 [(0, .ref 0), (1, .int x1), (2, .int x2), (3, .int x3), (4, .int x4)] [] σ (some (.int r.1), r.2) := by
  unfold f8_areWords_3_b at h
  refine AR.iload (pc := 3) (j := 4) dX8_areWords_3 rfl ?_
  refine AR.iload_n (pc := 5) (j := 3) dX8_areWords_5 rfl rfl ?_
  refine AR.icmp_ge (pc := 6) (tgt := 66) dX8_areWords_6 (by decide) (fun c1 => ?_) (fun c1 => ?_)
  · replace h := ite_t c1 h
    refine AR.iconst (pc := 66) (v := 1) dX8_areWords_66 (by decide) ?_
    exact AR.zret (pc := 67) rfl (Or.inr rfl) dX8_areWords_67 (hrI (Option.some.inj h))
  · replace h := ite_f c1 h
    refine AR.iload (pc := 9) (j := 4) dX8_areWords_9 rfl ?_
    refine AR.bipush (pc := 11) (v := 6) dX8_areWords_11 (by decide) ?_
    refine AR.icmp_ge (pc := 13) (tgt := 66) dX8_areWords_13 (by decide) (fun c2 => ?_) (fun c2 => ?_)
    · replace h := ite_t c2 h
      refine AR.iconst (pc := 66) (v := 1) dX8_areWords_66 (by decide) ?_
      exact AR.zret (pc := 67) rfl (Or.inr rfl) dX8_areWords_67 (hrI (Option.some.inj h))
    · replace h := ite_f c2 h
      refine AR.aload_n (pc := 16) (j := 0) dX8_areWords_16 rfl rfl ?_
      refine AR.getf (pc := 17) (ci := 8) (j := 0) (d := 1 + 2) (v := .ref 1) (T := TX8) dX8_areWords_17 rfl rfl rfl (by decide) (fun w hw => wsU_in (uw_X8 w hw)) (wsU_in fl_X8_25) rfl ?_
      refine AR.iload_n (pc := 20) (j := 1) dX8_areWords_20 rfl rfl ?_
      refine AR.iload_n (pc := 21) (j := 2) dX8_areWords_21 rfl rfl ?_
      refine AR.iload (pc := 22) (j := 4) dX8_areWords_22 rfl ?_
      refine AR.iadd (pc := 24) dX8_areWords_24 ?_
      obtain ⟨r3, h3, h⟩ := bd_some h
      refine AR.callVN (pc := 25) (As := [.int x1, .int (x2 + x4)]) (st := []) (ci := 7) dX8_areWords_25 ⟨cd_X7_valueAt, im_X7_valueAt, se_X7_valueAt, ini_X7⟩ mn_X8_200 (A7_valueAt x1 (x2 + x4) σ _ h3) ⟨rfl, pd_X7_valueAt⟩ ⟨Nat.le_of_ble_eq_true rfl, Nat.le_of_ble_eq_true rfl⟩ ⟨rfl, rfl⟩ rfl rfl rfl (Nat.le_of_ble_eq_true rfl) ?_
      refine AR.istore (pc := 28) (L2 := [(5, .int (r3.1)), (0, .ref 0), (1, .int x1), (2, .int x2), (3, .int x3), (4, .int x4)]) dX8_areWords_28 (by decide) rfl ?_
      refine AR.iload (pc := 30) (j := 0) dX8_areWords_30 rfl ?_
      refine AR.bipush (pc := 32) (v := (-9)) dX8_areWords_32 (by decide) ?_
      refine AR.icmp_eq (pc := 34) (tgt := 60) dX8_areWords_34 (by decide) (fun c4 => ?_) (fun c4 => ?_)
      · replace h := ite_t c4 h
        exact AR.pick [1, 2, 3, 4, 5] rfl (A8_areWords_60 k3 x1 x2 x3 x4 hk3 (r3.2) r h)
      · replace h := ite_f c4 h
        refine AR.aload_n (pc := 37) (j := 1) dX8_areWords_37 rfl rfl ?_
        refine AR.getf (pc := 38) (ci := 8) (j := 1) (d := 5 + 2) (v := .ref 5) (T := TX8) dX8_areWords_38 rfl rfl rfl (by decide) (fun w hw => wsU_in (uw_X8 w hw)) (wsU_in fl_X8_32) rfl ?_
        refine AR.aload_n (pc := 41) (j := 1) dX8_areWords_41 rfl rfl ?_
        refine AR.getf (pc := 42) (ci := 8) (j := 3) (d := 20 + 2) (v := .ref 20) (T := TX8) dX8_areWords_42 rfl rfl rfl (by decide) (fun w hw => wsU_in (uw_X8 w hw)) (wsU_in fl_X8_54) rfl ?_
        refine AR.iload (pc := 45) (j := 5) dX8_areWords_45 rfl ?_
        obtain ⟨r5, h5, h⟩ := bd_some h
        refine AR.callVN (pc := 47) (As := [.int x4]) (st := [.ref 5]) (ci := 0) dX8_areWords_47 ⟨cd_X0_whoIn, im_X0_whoIn, se_X0_whoIn, ini_X0⟩ mn_X8_207 (A0_whoIn 20 grp20 x4 (r3.2) _ h5) ⟨rfl, pd_X0_whoIn⟩ ⟨Nat.le_of_ble_eq_true rfl, Nat.le_of_ble_eq_true rfl⟩ ⟨rfl, rfl⟩ rfl rfl rfl (Nat.le_of_ble_eq_true rfl) ?_
        refine AR.iload (pc := 50) (j := 0) dX8_areWords_50 rfl ?_
        obtain ⟨r6, h6, h⟩ := bd_some h
        refine AR.callVN (pc := 52) (As := [.int (r5.1), .int (r3.1)]) (st := []) (ci := 4) dX8_areWords_52 ⟨cd_X4_hasWord, im_X4_hasWord, se_X4_hasWord, ini_X4⟩ mn_X8_147 (A4_hasWord (r5.1) (r3.1) (r5.2) _ h6) ⟨rfl, pd_X4_hasWord⟩ ⟨Nat.le_of_ble_eq_true rfl, Nat.le_of_ble_eq_true rfl⟩ ⟨rfl, rfl⟩ rfl rfl rfl (Nat.le_of_ble_eq_true rfl) ?_
        refine AR.if_ne (pc := 55) (tgt := 60) dX8_areWords_55 (by decide) (fun c7 => ?_) (fun c7 => ?_)
        · replace h := ite_f c7 h
          exact AR.pick [1, 2, 3, 4, 5] rfl (A8_areWords_60 k3 x1 x2 x3 x4 hk3 (r6.2) r h)
        · replace h := ite_t c7 h
          refine AR.iconst (pc := 58) (v := 0) dX8_areWords_58 (by decide) ?_
          exact AR.zret (pc := 59) rfl (Or.inl rfl) dX8_areWords_59 (hrI (Option.some.inj h))
theorem A8_areWords_3 {l : Launch} (x1 : Int32) (x2 : Int32) (x3 : Int32) (p : Int32 × HS) (r : Int32 × HS) (h : f8_areWords_3 x1 x2 x3 p = some r) : AR l RX8 cX8_areWords 6 (some .boolean) (wsU yX8_areWords cX8_areWords 6 (some .boolean)) rm8_areWords SC 3 [(0, .ref 0), (1, .int x1), (2, .int x2), (3, .int x3), (4, .int (p.1))] [] p.2 (some (.int r.1), r.2) := by
  unfold f8_areWords_3 at h
  exact wloop_run (body := fun k3 p => f8_areWords_3_b k3 x1 x2 x3 p.1 p.2) (Q := fun p r => AR l RX8 cX8_areWords 6 (some .boolean) (wsU yX8_areWords cX8_areWords 6 (some .boolean)) rm8_areWords SC 3 [(0, .ref 0), (1, .int x1), (2, .int x2), (3, .int x3), (4, .int (p.1))] [] p.2 (some (.int r.1), r.2)) (fun k3 hk3 p r h => A8_areWords_3_b k3 x1 x2 x3 p.1 hk3 p.2 r h) fuelN p r h
set_option maxHeartbeats 4000000 in
set_option maxRecDepth 100000 in
theorem A8_areWords {l : Launch} (x1 : Int32) (x2 : Int32) (x3 : Int32) (σ : HS) (r : Int32 × HS) (h : f8_areWords x1 x2 x3 σ = some r) : MA l yX8_areWords (wsU yX8_areWords cX8_areWords 6 (some .boolean)) rm8_areWords SC [.ref 0, .int x1, .int x2, .int x3] σ (some (.int r.1), r.2) := by
  refine MA.of (L := [(0, .ref 0), (1, .int x1), (2, .int x2), (3, .int x3)]) pn_X8_areWords rfl (fun _ => Nat.le_of_ble_eq_true rfl) (fun _ => rfl) ?_
  unfold f8_areWords at h
  refine AR.iconst (pc := 0) (v := 0) dX8_areWords_0 (by decide) ?_
  refine AR.istore (pc := 1) (L2 := [(4, .int 0), (0, .ref 0), (1, .int x1), (2, .int x2), (3, .int x3)]) dX8_areWords_1 (by decide) rfl ?_
  exact AR.pick [1, 2, 3, 4, 0] rfl (A8_areWords_3 x1 x2 x3 (0, σ) r h)
set_option maxHeartbeats 4000000 in
set_option maxRecDepth 100000 in
theorem A8_planAhead {l : Launch} (σ : HS) (r : HS) (h : f8_planAhead σ = some r) : MA l yX8_planAhead (wsU yX8_planAhead cX8_planAhead 1 none) rm8_planAhead SC [.ref 0] σ (none, r) := by
  refine MA.of (L := [(0, .ref 0)]) pn_X8_planAhead rfl (fun _ => Nat.le_of_ble_eq_true rfl) (fun _ => rfl) ?_
  unfold f8_planAhead at h
  refine AR.aload_n (pc := 0) (j := 0) dX8_planAhead_0 rfl rfl ?_
  refine AR.getf (pc := 1) (ci := 8) (j := 11) (d := 0) (v := .int (σ.1 0 11)) (T := TX8) dX8_planAhead_1 rfl rfl rfl (by decide) (fun w hw => wsU_in (uw_X8 w hw)) (wsU_in fl_X8_11) rfl ?_
  refine AR.if_ne (pc := 4) (tgt := 19) dX8_planAhead_4 (by decide) (fun c1 => ?_) (fun c1 => ?_)
  · replace h := ite_f c1 h
    exact AR.vret (pc := 19) rfl dX8_planAhead_19 (hrV (Option.some.inj h))
  · replace h := ite_t c1 h
    refine AR.aload_n (pc := 7) (j := 0) dX8_planAhead_7 rfl rfl ?_
    refine AR.getf (pc := 8) (ci := 8) (j := 4) (d := 22 + 2) (v := .ref 22) (T := TX8) dX8_planAhead_8 rfl rfl rfl (by decide) (fun w hw => wsU_in (uw_X8 w hw)) (wsU_in fl_X8_63) rfl ?_
    obtain ⟨r2, h2, h⟩ := bd_some h
    refine AR.callVN (pc := 11) (As := []) (st := []) (ci := 5) dX8_planAhead_11 ⟨cd_X5_makeForEach, im_X5_makeForEach, se_X5_makeForEach, ini_X5⟩ mn_X8_241 (A5_makeForEach σ _ h2) ⟨rfl, pd_X5_makeForEach⟩ ⟨Nat.le_of_ble_eq_true rfl, Nat.le_of_ble_eq_true rfl⟩ ⟨rfl, rfl⟩ rfl rfl rfl (Nat.le_of_ble_eq_true rfl) ?_
    refine AR.aload_n (pc := 14) (j := 0) dX8_planAhead_14 rfl rfl ?_
    refine AR.iconst (pc := 15) (v := 1) dX8_planAhead_15 (by decide) ?_
    refine AR.putI (pc := 16) (ci := 8) (j := 11) (T := TX8) (ty0 := tyX8) (ty := .boolean) dX8_planAhead_16 rfl rfl rfl (by decide) (fun w hw => wsU_in (uw_X8 w hw)) tyX8_ok nmX8 (wsU_in fl_X8_11) rfl (by decide +kernel) rfl rfl ?_
    exact AR.vret (pc := 19) rfl dX8_planAhead_19 (hrV (Option.some.inj h))
set_option maxHeartbeats 4000000 in
set_option maxRecDepth 100000 in
theorem A8_choice {l : Launch} (x1 : Int32) (x2 : Int32) (σ : HS) (r : Int32 × HS) (h : f8_choice x1 x2 σ = some r) : MA l yX8_choice (wsU yX8_choice cX8_choice 3 (some .int)) rm8_choice SC [.ref 0, .int x1, .int x2] σ (some (.int r.1), r.2) := by
  refine MA.of (L := [(0, .ref 0), (1, .int x1), (2, .int x2)]) pn_X8_choice rfl (fun _ => Nat.le_of_ble_eq_true rfl) (fun _ => rfl) ?_
  unfold f8_choice at h
  refine AR.aload_n (pc := 0) (j := 0) dX8_choice_0 rfl rfl ?_
  refine AR.getf (pc := 1) (ci := 8) (j := 3) (d := 20 + 2) (v := .ref 20) (T := TX8) dX8_choice_1 rfl rfl rfl (by decide) (fun w hw => wsU_in (uw_X8 w hw)) (wsU_in fl_X8_54) rfl ?_
  refine AR.iload_n (pc := 4) (j := 1) dX8_choice_4 rfl rfl ?_
  obtain ⟨r1, h1, h⟩ := bd_some h
  refine AR.callVN (pc := 5) (As := [.int x1]) (st := []) (ci := 0) dX8_choice_5 ⟨cd_X0_hasTurn, im_X0_hasTurn, se_X0_hasTurn, ini_X0⟩ mn_X8_210 (A0_hasTurn x1 σ _ h1) ⟨rfl, pd_X0_hasTurn⟩ ⟨Nat.le_of_ble_eq_true rfl, Nat.le_of_ble_eq_true rfl⟩ ⟨rfl, rfl⟩ rfl rfl rfl (Nat.le_of_ble_eq_true rfl) ?_
  refine AR.if_ne (pc := 8) (tgt := 13) dX8_choice_8 (by decide) (fun c2 => ?_) (fun c2 => ?_)
  · replace h := ite_f c2 h
    refine AR.iload_n (pc := 13) (j := 2) dX8_choice_13 rfl rfl ?_
    refine AR.if_lt (pc := 14) (tgt := 28) dX8_choice_14 (by decide) (fun c3 => ?_) (fun c3 => ?_)
    · replace h := ite_t c3 h
      refine AR.bipush (pc := 28) (v := (-2)) dX8_choice_28 (by decide) ?_
      exact AR.iret (pc := 30) rfl dX8_choice_30 (hrI (Option.some.inj h))
    · replace h := ite_f c3 h
      refine AR.iload_n (pc := 17) (j := 2) dX8_choice_17 rfl rfl ?_
      refine AR.aload_n (pc := 18) (j := 0) dX8_choice_18 rfl rfl ?_
      refine AR.getf (pc := 19) (ci := 8) (j := 1) (d := 5 + 2) (v := .ref 5) (T := TX8) dX8_choice_19 rfl rfl rfl (by decide) (fun w hw => wsU_in (uw_X8 w hw)) (wsU_in fl_X8_32) rfl ?_
      refine AR.getfN (pc := 22) (ci := 4) (j := 1) (d := 0) (v := .int ((r1.2).1 5 1)) (T := TX4) dX8_choice_22 rfl rfl rfl (by decide) (fun w hw => wsU_in (uw_X4 w hw)) fn_X8_213 rfl ?_
      refine AR.icmp_le (pc := 25) (tgt := 31) dX8_choice_25 (by decide) (fun c4 => ?_) (fun c4 => ?_)
      · replace h := ite_t c4 h
        refine AR.aload_n (pc := 31) (j := 0) dX8_choice_31 rfl rfl ?_
        obtain ⟨r5, h5, h⟩ := bd_some h
        refine AR.callV (pc := 32) (As := []) (st := []) (ci := 8) dX8_choice_32 ⟨cd_X8_planAhead, im_X8_planAhead, se_X8_planAhead, ini_X8⟩ ml_X8_216 (A8_planAhead (r1.2) _ h5) ⟨rfl, pd_X8_planAhead⟩ ⟨Nat.le_of_ble_eq_true rfl, Nat.le_of_ble_eq_true rfl⟩ ⟨rfl, rfl⟩ rfl rfl rfl (Nat.le_of_ble_eq_true rfl) ?_
        refine AR.aload_n (pc := 35) (j := 0) dX8_choice_35 rfl rfl ?_
        refine AR.getf (pc := 36) (ci := 8) (j := 4) (d := 22 + 2) (v := .ref 22) (T := TX8) dX8_choice_36 rfl rfl rfl (by decide) (fun w hw => wsU_in (uw_X8 w hw)) (wsU_in fl_X8_63) rfl ?_
        refine AR.iload_n (pc := 39) (j := 1) dX8_choice_39 rfl rfl ?_
        refine AR.iload_n (pc := 40) (j := 2) dX8_choice_40 rfl rfl ?_
        obtain ⟨r6, h6, h⟩ := bd_some h
        refine AR.callVN (pc := 41) (As := [.int x1, .int x2]) (st := []) (ci := 5) dX8_choice_41 ⟨cd_X5_wordAt, im_X5_wordAt, se_X5_wordAt, ini_X5⟩ mn_X8_219 (A5_wordAt 20 grp20 x1 x2 r5 _ h6) ⟨rfl, pd_X5_wordAt⟩ ⟨Nat.le_of_ble_eq_true rfl, Nat.le_of_ble_eq_true rfl⟩ ⟨rfl, rfl⟩ rfl rfl rfl (Nat.le_of_ble_eq_true rfl) ?_
        exact AR.iret (pc := 44) rfl dX8_choice_44 (hrI (Option.some.inj h))
      · replace h := ite_f c4 h
        refine AR.bipush (pc := 28) (v := (-2)) dX8_choice_28 (by decide) ?_
        exact AR.iret (pc := 30) rfl dX8_choice_30 (hrI (Option.some.inj h))
  · replace h := ite_t c2 h
    refine AR.iconst (pc := 11) (v := (-1)) dX8_choice_11 (by decide) ?_
    exact AR.iret (pc := 12) rfl dX8_choice_12 (hrI (Option.some.inj h))
set_option maxHeartbeats 4000000 in
set_option maxRecDepth 100000 in
theorem A8_says {l : Launch} (x1 : Int32) (σ : HS) (r : Int32 × HS) (h : f8_says x1 σ = some r) : MA l yX8_says (wsU yX8_says cX8_says 2 (some .int)) rm8_says SC [.ref 0, .int x1] σ (some (.int r.1), r.2) := by
  refine MA.of (L := [(0, .ref 0), (1, .int x1)]) pn_X8_says rfl (fun _ => Nat.le_of_ble_eq_true rfl) (fun _ => rfl) ?_
  unfold f8_says at h
  refine AR.aload_n (pc := 0) (j := 0) dX8_says_0 rfl rfl ?_
  refine AR.getf (pc := 1) (ci := 8) (j := 3) (d := 20 + 2) (v := .ref 20) (T := TX8) dX8_says_1 rfl rfl rfl (by decide) (fun w hw => wsU_in (uw_X8 w hw)) (wsU_in fl_X8_54) rfl ?_
  refine AR.iload_n (pc := 4) (j := 1) dX8_says_4 rfl rfl ?_
  obtain ⟨r1, h1, h⟩ := bd_some h
  refine AR.callVN (pc := 5) (As := [.int x1]) (st := []) (ci := 0) dX8_says_5 ⟨cd_X0_hasTurn, im_X0_hasTurn, se_X0_hasTurn, ini_X0⟩ mn_X8_210 (A0_hasTurn x1 σ _ h1) ⟨rfl, pd_X0_hasTurn⟩ ⟨Nat.le_of_ble_eq_true rfl, Nat.le_of_ble_eq_true rfl⟩ ⟨rfl, rfl⟩ rfl rfl rfl (Nat.le_of_ble_eq_true rfl) ?_
  refine AR.if_ne (pc := 8) (tgt := 13) dX8_says_8 (by decide) (fun c2 => ?_) (fun c2 => ?_)
  · replace h := ite_f c2 h
    refine AR.aload_n (pc := 13) (j := 0) dX8_says_13 rfl rfl ?_
    obtain ⟨r3, h3, h⟩ := bd_some h
    refine AR.callV (pc := 14) (As := []) (st := []) (ci := 8) dX8_says_14 ⟨cd_X8_planAhead, im_X8_planAhead, se_X8_planAhead, ini_X8⟩ ml_X8_216 (A8_planAhead (r1.2) _ h3) ⟨rfl, pd_X8_planAhead⟩ ⟨Nat.le_of_ble_eq_true rfl, Nat.le_of_ble_eq_true rfl⟩ ⟨rfl, rfl⟩ rfl rfl rfl (Nat.le_of_ble_eq_true rfl) ?_
    refine AR.aload_n (pc := 17) (j := 0) dX8_says_17 rfl rfl ?_
    refine AR.getf (pc := 18) (ci := 8) (j := 5) (d := 27 + 2) (v := .ref 27) (T := TX8) dX8_says_18 rfl rfl rfl (by decide) (fun w hw => wsU_in (uw_X8 w hw)) (wsU_in fl_X8_72) rfl ?_
    obtain ⟨r4, h4, h⟩ := bd_some h
    refine AR.callVN (pc := 21) (As := []) (st := []) (ci := 1) dX8_says_21 ⟨cd_X1_goFreely, im_X1_goFreely, se_X1_goFreely, ini_X1⟩ mn_X8_222 (A1_goFreely 20 grp20 r3 _ h4) ⟨rfl, pd_X1_goFreely⟩ ⟨Nat.le_of_ble_eq_true rfl, Nat.le_of_ble_eq_true rfl⟩ ⟨rfl, rfl⟩ rfl rfl rfl (Nat.le_of_ble_eq_true rfl) ?_
    refine AR.aload_n (pc := 24) (j := 0) dX8_says_24 rfl rfl ?_
    refine AR.getf (pc := 25) (ci := 8) (j := 5) (d := 27 + 2) (v := .ref 27) (T := TX8) dX8_says_25 rfl rfl rfl (by decide) (fun w hw => wsU_in (uw_X8 w hw)) (wsU_in fl_X8_72) rfl ?_
    refine AR.iload_n (pc := 28) (j := 1) dX8_says_28 rfl rfl ?_
    obtain ⟨r5, h5, h⟩ := bd_some h
    refine AR.callVN (pc := 29) (As := [.int x1]) (st := []) (ci := 1) dX8_says_29 ⟨cd_X1_saidIn, im_X1_saidIn, se_X1_saidIn, ini_X1⟩ mn_X8_225 (A1_saidIn 20 grp20 x1 r4 _ h5) ⟨rfl, pd_X1_saidIn⟩ ⟨Nat.le_of_ble_eq_true rfl, Nat.le_of_ble_eq_true rfl⟩ ⟨rfl, rfl⟩ rfl rfl rfl (Nat.le_of_ble_eq_true rfl) ?_
    exact AR.iret (pc := 32) rfl dX8_says_32 (hrI (Option.some.inj h))
  · replace h := ite_t c2 h
    refine AR.iconst (pc := 11) (v := (-1)) dX8_says_11 (by decide) ?_
    exact AR.iret (pc := 12) rfl dX8_says_12 (hrI (Option.some.inj h))
set_option maxHeartbeats 4000000 in
set_option maxRecDepth 100000 in
theorem A8_together_18 {l : Launch} (x1 : Int32) (σ : HS) (r : Int32 × HS) (h : f8_together_18 x1 σ = some r) : AR l RX8 cX8_together 2 (some .int) (wsU yX8_together cX8_together 2 (some .int)) rm8_together SC 18 [(0, .ref 0), (1, .int x1)] [] σ (some (.int r.1), r.2) := by
  unfold f8_together_18 at h
  refine AR.aload_n (pc := 18) (j := 0) dX8_together_18 rfl rfl ?_
  refine AR.getf (pc := 19) (ci := 8) (j := 1) (d := 5 + 2) (v := .ref 5) (T := TX8) dX8_together_19 rfl rfl rfl (by decide) (fun w hw => wsU_in (uw_X8 w hw)) (wsU_in fl_X8_32) rfl ?_
  refine AR.getfN (pc := 22) (ci := 4) (j := 0) (d := 0) (v := .int (σ.1 5 0)) (T := TX4) dX8_together_22 rfl rfl rfl (by decide) (fun w hw => wsU_in (uw_X4 w hw)) fn_X8_132 rfl ?_
  refine AR.if_ne (pc := 25) (tgt := 31) dX8_together_25 (by decide) (fun c1 => ?_) (fun c1 => ?_)
  · replace h := ite_f c1 h
    refine AR.aload_n (pc := 31) (j := 0) dX8_together_31 rfl rfl ?_
    refine AR.getf (pc := 32) (ci := 8) (j := 6) (d := 30 + 2) (v := .ref 30) (T := TX8) dX8_together_32 rfl rfl rfl (by decide) (fun w hw => wsU_in (uw_X8 w hw)) (wsU_in fl_X8_76) rfl ?_
    refine AR.aload_n (pc := 35) (j := 0) dX8_together_35 rfl rfl ?_
    refine AR.getf (pc := 36) (ci := 8) (j := 3) (d := 20 + 2) (v := .ref 20) (T := TX8) dX8_together_36 rfl rfl rfl (by decide) (fun w hw => wsU_in (uw_X8 w hw)) (wsU_in fl_X8_54) rfl ?_
    obtain ⟨r2, h2, h⟩ := bd_some h
    refine AR.callVN (pc := 39) (As := [.ref 20]) (st := []) (ci := 0) dX8_together_39 ⟨cd_X0_follow, im_X0_follow, se_X0_follow, ini_X0⟩ mn_X8_231 (A0_follow σ _ h2) ⟨rfl, pd_X0_follow⟩ ⟨Nat.le_of_ble_eq_true rfl, Nat.le_of_ble_eq_true rfl⟩ ⟨rfl, rfl⟩ rfl rfl rfl (Nat.le_of_ble_eq_true rfl) ?_
    refine AR.aload_n (pc := 42) (j := 0) dX8_together_42 rfl rfl ?_
    refine AR.getf (pc := 43) (ci := 8) (j := 7) (d := 32 + 2) (v := .ref 32) (T := TX8) dX8_together_43 rfl rfl rfl (by decide) (fun w hw => wsU_in (uw_X8 w hw)) (wsU_in fl_X8_79) rfl ?_
    obtain ⟨r3, h3, h⟩ := bd_some h
    refine AR.callVN (pc := 46) (As := []) (st := []) (ci := 5) dX8_together_46 ⟨cd_X5_makeForAll, im_X5_makeForAll, se_X5_makeForAll, ini_X5⟩ mn_X8_234 (A5_makeForAll r2 _ h3) ⟨rfl, pd_X5_makeForAll⟩ ⟨Nat.le_of_ble_eq_true rfl, Nat.le_of_ble_eq_true rfl⟩ ⟨rfl, rfl⟩ rfl rfl rfl (Nat.le_of_ble_eq_true rfl) ?_
    refine AR.aload_n (pc := 49) (j := 0) dX8_together_49 rfl rfl ?_
    refine AR.getf (pc := 50) (ci := 8) (j := 8) (d := 37 + 2) (v := .ref 37) (T := TX8) dX8_together_50 rfl rfl rfl (by decide) (fun w hw => wsU_in (uw_X8 w hw)) (wsU_in fl_X8_82) rfl ?_
    obtain ⟨r4, h4, h⟩ := bd_some h
    refine AR.callVN (pc := 53) (As := []) (st := []) (ci := 1) dX8_together_53 ⟨cd_X1_goFreely, im_X1_goFreely, se_X1_goFreely, ini_X1⟩ mn_X8_222 (A1_goFreely 30 grp30 r3 _ h4) ⟨rfl, pd_X1_goFreely⟩ ⟨Nat.le_of_ble_eq_true rfl, Nat.le_of_ble_eq_true rfl⟩ ⟨rfl, rfl⟩ rfl rfl rfl (Nat.le_of_ble_eq_true rfl) ?_
    refine AR.iload_n (pc := 56) (j := 1) dX8_together_56 rfl rfl ?_
    refine AR.iconst (pc := 57) (v := (-1)) dX8_together_57 (by decide) ?_
    refine AR.icmp_ne (pc := 58) (tgt := 74) dX8_together_58 (by decide) (fun c5 => ?_) (fun c5 => ?_)
    · replace h := ite_f c5 h
      refine AR.aload_n (pc := 74) (j := 0) dX8_together_74 rfl rfl ?_
      refine AR.getf (pc := 75) (ci := 8) (j := 8) (d := 37 + 2) (v := .ref 37) (T := TX8) dX8_together_75 rfl rfl rfl (by decide) (fun w hw => wsU_in (uw_X8 w hw)) (wsU_in fl_X8_82) rfl ?_
      refine AR.iload_n (pc := 78) (j := 1) dX8_together_78 rfl rfl ?_
      obtain ⟨r6, h6, h⟩ := bd_some h
      refine AR.callVN (pc := 79) (As := [.int x1]) (st := []) (ci := 1) dX8_together_79 ⟨cd_X1_saidIn, im_X1_saidIn, se_X1_saidIn, ini_X1⟩ mn_X8_225 (A1_saidIn 30 grp30 x1 r4 _ h6) ⟨rfl, pd_X1_saidIn⟩ ⟨Nat.le_of_ble_eq_true rfl, Nat.le_of_ble_eq_true rfl⟩ ⟨rfl, rfl⟩ rfl rfl rfl (Nat.le_of_ble_eq_true rfl) ?_
      exact AR.iret (pc := 82) rfl dX8_together_82 (hrI (Option.some.inj h))
    · replace h := ite_t c5 h
      refine AR.aload_n (pc := 61) (j := 0) dX8_together_61 rfl rfl ?_
      refine AR.getf (pc := 62) (ci := 8) (j := 8) (d := 37 + 2) (v := .ref 37) (T := TX8) dX8_together_62 rfl rfl rfl (by decide) (fun w hw => wsU_in (uw_X8 w hw)) (wsU_in fl_X8_82) rfl ?_
      refine AR.getfN (pc := 65) (ci := 1) (j := 9) (d := 1) (v := .long (r4.2 37 9)) (T := TX1) dX8_together_65 rfl rfl rfl (by decide) (fun w hw => wsU_in (uw_X1 w hw)) fn_X8_185 rfl ?_
      obtain ⟨r7, h7, h⟩ := bd_some h
      refine AR.callS (pc := 68) (As := [.long (r4.2 37 9)]) (st := []) dX8_together_68 ⟨cd_X8_worthToAll, sm_X8_worthToAll, ini_X8⟩ ml_X8_237 (A8_worthToAll (r4.2 37 9) r4 _ h7) ⟨rfl, pd_X8_worthToAll⟩ ⟨Nat.le_of_ble_eq_true rfl, Nat.le_of_ble_eq_true rfl⟩ ⟨rfl, rfl⟩ rfl (Nat.le_of_ble_eq_true rfl) ?_
      refine AR.goto (pc := 71) (tgt := 82) dX8_together_71 (by decide) ?_
      exact AR.iret (pc := 82) rfl dX8_together_82 (hrI (Option.some.inj h))
  · replace h := ite_t c1 h
    refine AR.bipush (pc := 28) (v := (-3)) dX8_together_28 (by decide) ?_
    exact AR.iret (pc := 30) rfl dX8_together_30 (hrI (Option.some.inj h))
set_option maxHeartbeats 4000000 in
set_option maxRecDepth 100000 in
theorem A8_together {l : Launch} (x1 : Int32) (σ : HS) (r : Int32 × HS) (h : f8_together x1 σ = some r) : MA l yX8_together (wsU yX8_together cX8_together 2 (some .int)) rm8_together SC [.ref 0, .int x1] σ (some (.int r.1), r.2) := by
  refine MA.of (L := [(0, .ref 0), (1, .int x1)]) pn_X8_together rfl (fun _ => Nat.le_of_ble_eq_true rfl) (fun _ => rfl) ?_
  unfold f8_together at h
  refine AR.iload_n (pc := 0) (j := 1) dX8_together_0 rfl rfl ?_
  refine AR.iconst (pc := 1) (v := (-1)) dX8_together_1 (by decide) ?_
  refine AR.icmp_eq (pc := 2) (tgt := 18) dX8_together_2 (by decide) (fun c1 => ?_) (fun c1 => ?_)
  · replace h := ite_t c1 h
    exact AR.pick [0, 1] rfl (A8_together_18 x1 σ r h)
  · replace h := ite_f c1 h
    refine AR.aload_n (pc := 5) (j := 0) dX8_together_5 rfl rfl ?_
    refine AR.getf (pc := 6) (ci := 8) (j := 3) (d := 20 + 2) (v := .ref 20) (T := TX8) dX8_together_6 rfl rfl rfl (by decide) (fun w hw => wsU_in (uw_X8 w hw)) (wsU_in fl_X8_54) rfl ?_
    refine AR.iload_n (pc := 9) (j := 1) dX8_together_9 rfl rfl ?_
    obtain ⟨r2, h2, h⟩ := bd_some h
    refine AR.callVN (pc := 10) (As := [.int x1]) (st := []) (ci := 0) dX8_together_10 ⟨cd_X0_hasTurn, im_X0_hasTurn, se_X0_hasTurn, ini_X0⟩ mn_X8_210 (A0_hasTurn x1 σ _ h2) ⟨rfl, pd_X0_hasTurn⟩ ⟨Nat.le_of_ble_eq_true rfl, Nat.le_of_ble_eq_true rfl⟩ ⟨rfl, rfl⟩ rfl rfl rfl (Nat.le_of_ble_eq_true rfl) ?_
    refine AR.if_ne (pc := 13) (tgt := 18) dX8_together_13 (by decide) (fun c3 => ?_) (fun c3 => ?_)
    · replace h := ite_f c3 h
      exact AR.pick [0, 1] rfl (A8_together_18 x1 (r2.2) r h)
    · replace h := ite_t c3 h
      refine AR.iconst (pc := 16) (v := (-1)) dX8_together_16 (by decide) ?_
      exact AR.iret (pc := 17) rfl dX8_together_17 (hrI (Option.some.inj h))
set_option maxHeartbeats 4000000 in
set_option maxRecDepth 100000 in
theorem A8_areTwo_31 {l : Launch} (σ : HS) (r : Int32 × HS) (h : f8_areTwo_31 σ = some r) : AR l RX8 cX8_areTwo 3 (some .boolean) (wsU yX8_areTwo cX8_areTwo 3 (some .boolean)) rm8_areTwo SC 31 [] [] σ (some (.int r.1), r.2) := by
  unfold f8_areTwo_31 at h
  refine AR.iconst (pc := 31) (v := 0) dX8_areTwo_31 (by decide) ?_
  exact AR.zret (pc := 32) rfl (Or.inl rfl) dX8_areTwo_32 (hrI (Option.some.inj h))
set_option maxHeartbeats 4000000 in
set_option maxRecDepth 100000 in
theorem A8_areTwo {l : Launch} (x1 : Int32) (x2 : Int32) (σ : HS) (r : Int32 × HS) (h : f8_areTwo x1 x2 σ = some r) : MA l yX8_areTwo (wsU yX8_areTwo cX8_areTwo 3 (some .boolean)) rm8_areTwo SC [.ref 0, .int x1, .int x2] σ (some (.int r.1), r.2) := by
  refine MA.of (L := [(0, .ref 0), (1, .int x1), (2, .int x2)]) pn_X8_areTwo rfl (fun _ => Nat.le_of_ble_eq_true rfl) (fun _ => rfl) ?_
  unfold f8_areTwo at h
  refine AR.aload_n (pc := 0) (j := 0) dX8_areTwo_0 rfl rfl ?_
  refine AR.getf (pc := 1) (ci := 8) (j := 1) (d := 5 + 2) (v := .ref 5) (T := TX8) dX8_areTwo_1 rfl rfl rfl (by decide) (fun w hw => wsU_in (uw_X8 w hw)) (wsU_in fl_X8_32) rfl ?_
  refine AR.iload_n (pc := 4) (j := 1) dX8_areTwo_4 rfl rfl ?_
  obtain ⟨r1, h1, h⟩ := bd_some h
  refine AR.callVN (pc := 5) (As := [.int x1]) (st := []) (ci := 4) dX8_areTwo_5 ⟨cd_X4_has, im_X4_has, se_X4_has, ini_X4⟩ mn_X8_135 (A4_has x1 σ _ h1) ⟨rfl, pd_X4_has⟩ ⟨Nat.le_of_ble_eq_true rfl, Nat.le_of_ble_eq_true rfl⟩ ⟨rfl, rfl⟩ rfl rfl rfl (Nat.le_of_ble_eq_true rfl) ?_
  refine AR.if_eq (pc := 8) (tgt := 31) dX8_areTwo_8 (by decide) (fun c2 => ?_) (fun c2 => ?_)
  · replace h := ite_t c2 h
    exact AR.pick [] rfl (A8_areTwo_31 (r1.2) r h)
  · replace h := ite_f c2 h
    refine AR.aload_n (pc := 11) (j := 0) dX8_areTwo_11 rfl rfl ?_
    refine AR.getf (pc := 12) (ci := 8) (j := 1) (d := 5 + 2) (v := .ref 5) (T := TX8) dX8_areTwo_12 rfl rfl rfl (by decide) (fun w hw => wsU_in (uw_X8 w hw)) (wsU_in fl_X8_32) rfl ?_
    refine AR.iload_n (pc := 15) (j := 2) dX8_areTwo_15 rfl rfl ?_
    obtain ⟨r3, h3, h⟩ := bd_some h
    refine AR.callVN (pc := 16) (As := [.int x2]) (st := []) (ci := 4) dX8_areTwo_16 ⟨cd_X4_has, im_X4_has, se_X4_has, ini_X4⟩ mn_X8_135 (A4_has x2 (r1.2) _ h3) ⟨rfl, pd_X4_has⟩ ⟨Nat.le_of_ble_eq_true rfl, Nat.le_of_ble_eq_true rfl⟩ ⟨rfl, rfl⟩ rfl rfl rfl (Nat.le_of_ble_eq_true rfl) ?_
    refine AR.if_eq (pc := 19) (tgt := 31) dX8_areTwo_19 (by decide) (fun c4 => ?_) (fun c4 => ?_)
    · replace h := ite_t c4 h
      exact AR.pick [] rfl (A8_areTwo_31 (r3.2) r h)
    · replace h := ite_f c4 h
      refine AR.iload_n (pc := 22) (j := 1) dX8_areTwo_22 rfl rfl ?_
      refine AR.iload_n (pc := 23) (j := 2) dX8_areTwo_23 rfl rfl ?_
      refine AR.icmp_eq (pc := 24) (tgt := 31) dX8_areTwo_24 (by decide) (fun c5 => ?_) (fun c5 => ?_)
      · replace h := ite_t c5 h
        exact AR.pick [] rfl (A8_areTwo_31 (r3.2) r h)
      · replace h := ite_f c5 h
        refine AR.iconst (pc := 27) (v := 1) dX8_areTwo_27 (by decide) ?_
        refine AR.goto (pc := 28) (tgt := 32) dX8_areTwo_28 (by decide) ?_
        exact AR.zret (pc := 32) rfl (Or.inr rfl) dX8_areTwo_32 (hrI (Option.some.inj h))
set_option maxHeartbeats 4000000 in
set_option maxRecDepth 100000 in
theorem A8_owed {l : Launch} (x1 : Int32) (x2 : Int32) (σ : HS) (r : Int64 × HS) (h : f8_owed x1 x2 σ = some r) : MA l yX8_owed (wsU yX8_owed cX8_owed 5 (some .long)) rm8_owed SC [.ref 0, .int x1, .int x2] σ (some (.long r.1), r.2) := by
  refine MA.of (L := [(0, .ref 0), (1, .int x1), (2, .int x2)]) pn_X8_owed rfl (fun _ => Nat.le_of_ble_eq_true rfl) (fun _ => rfl) ?_
  unfold f8_owed at h
  refine AR.aload_n (pc := 0) (j := 0) dX8_owed_0 rfl rfl ?_
  refine AR.iload_n (pc := 1) (j := 1) dX8_owed_1 rfl rfl ?_
  refine AR.iload_n (pc := 2) (j := 2) dX8_owed_2 rfl rfl ?_
  obtain ⟨r1, h1, h⟩ := bd_some h
  refine AR.callV (pc := 3) (As := [.int x1, .int x2]) (st := []) (ci := 8) dX8_owed_3 ⟨cd_X8_areTwo, im_X8_areTwo, se_X8_areTwo, ini_X8⟩ ml_X8_244 (A8_areTwo x1 x2 σ _ h1) ⟨rfl, pd_X8_areTwo⟩ ⟨Nat.le_of_ble_eq_true rfl, Nat.le_of_ble_eq_true rfl⟩ ⟨rfl, rfl⟩ rfl rfl rfl (Nat.le_of_ble_eq_true rfl) ?_
  refine AR.if_ne (pc := 6) (tgt := 13) dX8_owed_6 (by decide) (fun c2 => ?_) (fun c2 => ?_)
  · replace h := ite_f c2 h
    refine AR.aload_n (pc := 13) (j := 0) dX8_owed_13 rfl rfl ?_
    refine AR.getf (pc := 14) (ci := 8) (j := 3) (d := 20 + 2) (v := .ref 20) (T := TX8) dX8_owed_14 rfl rfl rfl (by decide) (fun w hw => wsU_in (uw_X8 w hw)) (wsU_in fl_X8_54) rfl ?_
    refine AR.iload_n (pc := 17) (j := 1) dX8_owed_17 rfl rfl ?_
    obtain ⟨r3, h3, h⟩ := bd_some h
    refine AR.callVN (pc := 18) (As := [.int x1]) (st := []) (ci := 0) dX8_owed_18 ⟨cd_X0_placeOf, im_X0_placeOf, se_X0_placeOf, ini_X0⟩ mn_X8_145 (A0_placeOf x1 (r1.2) _ h3) ⟨rfl, pd_X0_placeOf⟩ ⟨Nat.le_of_ble_eq_true rfl, Nat.le_of_ble_eq_true rfl⟩ ⟨rfl, rfl⟩ rfl rfl rfl (Nat.le_of_ble_eq_true rfl) ?_
    refine AR.istore_n (pc := 21) (L2 := [(3, .int (r3.1)), (0, .ref 0), (1, .int x1), (2, .int x2)]) dX8_owed_21 rfl (by decide) rfl ?_
    refine AR.aload_n (pc := 22) (j := 1) dX8_owed_22 rfl rfl ?_
    obtain ⟨r4, h4, h⟩ := bd_some h
    refine AR.callV (pc := 23) (As := []) (st := []) (ci := 8) dX8_owed_23 ⟨cd_X8_planAhead, im_X8_planAhead, se_X8_planAhead, ini_X8⟩ ml_X8_216 (A8_planAhead (r3.2) _ h4) ⟨rfl, pd_X8_planAhead⟩ ⟨Nat.le_of_ble_eq_true rfl, Nat.le_of_ble_eq_true rfl⟩ ⟨rfl, rfl⟩ rfl rfl rfl (Nat.le_of_ble_eq_true rfl) ?_
    refine AR.aload_n (pc := 26) (j := 1) dX8_owed_26 rfl rfl ?_
    refine AR.getf (pc := 27) (ci := 8) (j := 5) (d := 27 + 2) (v := .ref 27) (T := TX8) dX8_owed_27 rfl rfl rfl (by decide) (fun w hw => wsU_in (uw_X8 w hw)) (wsU_in fl_X8_72) rfl ?_
    refine AR.iload_n (pc := 30) (j := 0) dX8_owed_30 rfl rfl ?_
    refine AR.bipush (pc := 31) (v := (-9)) dX8_owed_31 (by decide) ?_
    obtain ⟨r5, h5, h⟩ := bd_some h
    refine AR.callVN (pc := 33) (As := [.int (r3.1), .int (-9)]) (st := []) (ci := 1) dX8_owed_33 ⟨cd_X1_goForced, im_X1_goForced, se_X1_goForced, ini_X1⟩ mn_X8_249 (A1_goForced 20 grp20 (r3.1) (-9) r4 _ h5) ⟨rfl, pd_X1_goForced⟩ ⟨Nat.le_of_ble_eq_true rfl, Nat.le_of_ble_eq_true rfl⟩ ⟨rfl, rfl⟩ rfl rfl rfl (Nat.le_of_ble_eq_true rfl) ?_
    refine AR.aload_n (pc := 36) (j := 1) dX8_owed_36 rfl rfl ?_
    refine AR.getf (pc := 37) (ci := 8) (j := 5) (d := 27 + 2) (v := .ref 27) (T := TX8) dX8_owed_37 rfl rfl rfl (by decide) (fun w hw => wsU_in (uw_X8 w hw)) (wsU_in fl_X8_72) rfl ?_
    refine AR.getfN (pc := 40) (ci := 1) (j := 9) (d := 1) (v := .long (r5.2 27 9)) (T := TX1) dX8_owed_40 rfl rfl rfl (by decide) (fun w hw => wsU_in (uw_X1 w hw)) fn_X8_185 rfl ?_
    refine AR.iload_n (pc := 43) (j := 3) dX8_owed_43 rfl rfl ?_
    obtain ⟨r6, h6, h⟩ := bd_some h
    refine AR.callS (pc := 44) (As := [.long (r5.2 27 9), .int x2]) (st := []) dX8_owed_44 ⟨cd_X8_worthIn, sm_X8_worthIn, ini_X8⟩ ml_X8_101 (A8_worthIn (r5.2 27 9) x2 r5 _ h6) ⟨rfl, pd_X8_worthIn⟩ ⟨Nat.le_of_ble_eq_true rfl, Nat.le_of_ble_eq_true rfl⟩ ⟨rfl, rfl⟩ rfl (Nat.le_of_ble_eq_true rfl) ?_
    refine AR.istore (pc := 47) (L2 := [(4, .int (r6.1)), (3, .int (r3.1)), (0, .ref 0), (1, .int x1), (2, .int x2)]) dX8_owed_47 (by decide) rfl ?_
    refine AR.aload_n (pc := 49) (j := 2) dX8_owed_49 rfl rfl ?_
    refine AR.getf (pc := 50) (ci := 8) (j := 5) (d := 27 + 2) (v := .ref 27) (T := TX8) dX8_owed_50 rfl rfl rfl (by decide) (fun w hw => wsU_in (uw_X8 w hw)) (wsU_in fl_X8_72) rfl ?_
    refine AR.iload_n (pc := 53) (j := 1) dX8_owed_53 rfl rfl ?_
    refine AR.aload_n (pc := 54) (j := 2) dX8_owed_54 rfl rfl ?_
    refine AR.getf (pc := 55) (ci := 8) (j := 1) (d := 5 + 2) (v := .ref 5) (T := TX8) dX8_owed_55 rfl rfl rfl (by decide) (fun w hw => wsU_in (uw_X8 w hw)) (wsU_in fl_X8_32) rfl ?_
    refine AR.iload_n (pc := 58) (j := 3) dX8_owed_58 rfl rfl ?_
    refine AR.aload_n (pc := 59) (j := 2) dX8_owed_59 rfl rfl ?_
    refine AR.getf (pc := 60) (ci := 8) (j := 5) (d := 27 + 2) (v := .ref 27) (T := TX8) dX8_owed_60 rfl rfl rfl (by decide) (fun w hw => wsU_in (uw_X8 w hw)) (wsU_in fl_X8_72) rfl ?_
    refine AR.iload_n (pc := 63) (j := 1) dX8_owed_63 rfl rfl ?_
    obtain ⟨r7, h7, h⟩ := bd_some h
    refine AR.callVN (pc := 64) (As := [.int (r3.1)]) (st := [.int x1, .ref 5, .int (r3.1), .ref 27]) (ci := 1) dX8_owed_64 ⟨cd_X1_waterIn, im_X1_waterIn, se_X1_waterIn, ini_X1⟩ mn_X8_228 (A1_waterIn (r3.1) (r6.2) _ h7) ⟨rfl, pd_X1_waterIn⟩ ⟨Nat.le_of_ble_eq_true rfl, Nat.le_of_ble_eq_true rfl⟩ ⟨rfl, rfl⟩ rfl rfl rfl (Nat.le_of_ble_eq_true rfl) ?_
    obtain ⟨r8, h8, h⟩ := bd_some h
    refine AR.callVN (pc := 67) (As := [.int x1, .int (r7.1)]) (st := [.int (r3.1), .ref 27]) (ci := 4) dX8_owed_67 ⟨cd_X4_longestWithin, im_X4_longestWithin, se_X4_longestWithin, ini_X4⟩ mn_X8_252 (A4_longestWithin x1 (r7.1) (r7.2) _ h8) ⟨rfl, pd_X4_longestWithin⟩ ⟨Nat.le_of_ble_eq_true rfl, Nat.le_of_ble_eq_true rfl⟩ ⟨rfl, rfl⟩ rfl rfl rfl (Nat.le_of_ble_eq_true rfl) ?_
    obtain ⟨r9, h9, h⟩ := bd_some h
    refine AR.callVN (pc := 70) (As := [.int (r3.1), .int (r8.1)]) (st := []) (ci := 1) dX8_owed_70 ⟨cd_X1_goForced, im_X1_goForced, se_X1_goForced, ini_X1⟩ mn_X8_249 (A1_goForced 20 grp20 (r3.1) (r8.1) (r8.2) _ h9) ⟨rfl, pd_X1_goForced⟩ ⟨Nat.le_of_ble_eq_true rfl, Nat.le_of_ble_eq_true rfl⟩ ⟨rfl, rfl⟩ rfl rfl rfl (Nat.le_of_ble_eq_true rfl) ?_
    refine AR.iload (pc := 73) (j := 0) dX8_owed_73 rfl ?_
    refine AR.aload_n (pc := 75) (j := 2) dX8_owed_75 rfl rfl ?_
    refine AR.getf (pc := 76) (ci := 8) (j := 5) (d := 27 + 2) (v := .ref 27) (T := TX8) dX8_owed_76 rfl rfl rfl (by decide) (fun w hw => wsU_in (uw_X8 w hw)) (wsU_in fl_X8_72) rfl ?_
    refine AR.getfN (pc := 79) (ci := 1) (j := 9) (d := 1) (v := .long (r9.2 27 9)) (T := TX1) dX8_owed_79 rfl rfl rfl (by decide) (fun w hw => wsU_in (uw_X1 w hw)) fn_X8_185 rfl ?_
    refine AR.iload_n (pc := 82) (j := 4) dX8_owed_82 rfl rfl ?_
    obtain ⟨r10, h10, h⟩ := bd_some h
    refine AR.callS (pc := 83) (As := [.long (r9.2 27 9), .int x2]) (st := [.int (r6.1)]) dX8_owed_83 ⟨cd_X8_worthIn, sm_X8_worthIn, ini_X8⟩ ml_X8_101 (A8_worthIn (r9.2 27 9) x2 r9 _ h10) ⟨rfl, pd_X8_worthIn⟩ ⟨Nat.le_of_ble_eq_true rfl, Nat.le_of_ble_eq_true rfl⟩ ⟨rfl, rfl⟩ rfl (Nat.le_of_ble_eq_true rfl) ?_
    refine AR.isub (pc := 86) dX8_owed_86 ?_
    refine AR.i2l (pc := 87) dX8_owed_87 ?_
    exact AR.lret (pc := 88) rfl dX8_owed_88 (hrL (Option.some.inj h))
  · replace h := ite_t c2 h
    refine AR.ldc2 (pc := 9) (v := (-9223372036854775808)) dX8_owed_9 (wsU_in kl_X8_247) ?_
    exact AR.lret (pc := 12) rfl dX8_owed_12 (hrL (Option.some.inj h))
set_option maxHeartbeats 4000000 in
set_option maxRecDepth 100000 in
theorem A8_bargain {l : Launch} (x1 : Int32) (x2 : Int32) (σ : HS) (r : Int64 × HS) (h : f8_bargain x1 x2 σ = some r) : MA l yX8_bargain (wsU yX8_bargain cX8_bargain 4 (some .long)) rm8_bargain SC [.ref 0, .int x1, .int x2] σ (some (.long r.1), r.2) := by
  refine MA.of (L := [(0, .ref 0), (1, .int x1), (2, .int x2)]) pn_X8_bargain rfl (fun _ => Nat.le_of_ble_eq_true rfl) (fun _ => rfl) ?_
  unfold f8_bargain at h
  refine AR.aload_n (pc := 0) (j := 0) dX8_bargain_0 rfl rfl ?_
  refine AR.iload_n (pc := 1) (j := 1) dX8_bargain_1 rfl rfl ?_
  refine AR.iload_n (pc := 2) (j := 2) dX8_bargain_2 rfl rfl ?_
  obtain ⟨r1, h1, h⟩ := bd_some h
  refine AR.callV (pc := 3) (As := [.int x1, .int x2]) (st := []) (ci := 8) dX8_bargain_3 ⟨cd_X8_areTwo, im_X8_areTwo, se_X8_areTwo, ini_X8⟩ ml_X8_244 (A8_areTwo x1 x2 σ _ h1) ⟨rfl, pd_X8_areTwo⟩ ⟨Nat.le_of_ble_eq_true rfl, Nat.le_of_ble_eq_true rfl⟩ ⟨rfl, rfl⟩ rfl rfl rfl (Nat.le_of_ble_eq_true rfl) ?_
  refine AR.if_ne (pc := 6) (tgt := 13) dX8_bargain_6 (by decide) (fun c2 => ?_) (fun c2 => ?_)
  · replace h := ite_f c2 h
    refine AR.aload_n (pc := 13) (j := 0) dX8_bargain_13 rfl rfl ?_
    obtain ⟨r3, h3, h⟩ := bd_some h
    refine AR.callV (pc := 14) (As := []) (st := []) (ci := 8) dX8_bargain_14 ⟨cd_X8_planAhead, im_X8_planAhead, se_X8_planAhead, ini_X8⟩ ml_X8_216 (A8_planAhead (r1.2) _ h3) ⟨rfl, pd_X8_planAhead⟩ ⟨Nat.le_of_ble_eq_true rfl, Nat.le_of_ble_eq_true rfl⟩ ⟨rfl, rfl⟩ rfl rfl rfl (Nat.le_of_ble_eq_true rfl) ?_
    refine AR.aload_n (pc := 17) (j := 0) dX8_bargain_17 rfl rfl ?_
    refine AR.getf (pc := 18) (ci := 8) (j := 5) (d := 27 + 2) (v := .ref 27) (T := TX8) dX8_bargain_18 rfl rfl rfl (by decide) (fun w hw => wsU_in (uw_X8 w hw)) (wsU_in fl_X8_72) rfl ?_
    refine AR.aload_n (pc := 21) (j := 0) dX8_bargain_21 rfl rfl ?_
    refine AR.getf (pc := 22) (ci := 8) (j := 3) (d := 20 + 2) (v := .ref 20) (T := TX8) dX8_bargain_22 rfl rfl rfl (by decide) (fun w hw => wsU_in (uw_X8 w hw)) (wsU_in fl_X8_54) rfl ?_
    refine AR.iload_n (pc := 25) (j := 1) dX8_bargain_25 rfl rfl ?_
    obtain ⟨r4, h4, h⟩ := bd_some h
    refine AR.callVN (pc := 26) (As := [.int x1]) (st := [.ref 27]) (ci := 0) dX8_bargain_26 ⟨cd_X0_placeOf, im_X0_placeOf, se_X0_placeOf, ini_X0⟩ mn_X8_145 (A0_placeOf x1 r3 _ h4) ⟨rfl, pd_X0_placeOf⟩ ⟨Nat.le_of_ble_eq_true rfl, Nat.le_of_ble_eq_true rfl⟩ ⟨rfl, rfl⟩ rfl rfl rfl (Nat.le_of_ble_eq_true rfl) ?_
    refine AR.bipush (pc := 29) (v := (-9)) dX8_bargain_29 (by decide) ?_
    obtain ⟨r5, h5, h⟩ := bd_some h
    refine AR.callVN (pc := 31) (As := [.int (r4.1), .int (-9)]) (st := []) (ci := 1) dX8_bargain_31 ⟨cd_X1_goForced, im_X1_goForced, se_X1_goForced, ini_X1⟩ mn_X8_249 (A1_goForced 20 grp20 (r4.1) (-9) (r4.2) _ h5) ⟨rfl, pd_X1_goForced⟩ ⟨Nat.le_of_ble_eq_true rfl, Nat.le_of_ble_eq_true rfl⟩ ⟨rfl, rfl⟩ rfl rfl rfl (Nat.le_of_ble_eq_true rfl) ?_
    refine AR.aload_n (pc := 34) (j := 0) dX8_bargain_34 rfl rfl ?_
    refine AR.getf (pc := 35) (ci := 8) (j := 5) (d := 27 + 2) (v := .ref 27) (T := TX8) dX8_bargain_35 rfl rfl rfl (by decide) (fun w hw => wsU_in (uw_X8 w hw)) (wsU_in fl_X8_72) rfl ?_
    refine AR.getfN (pc := 38) (ci := 1) (j := 9) (d := 1) (v := .long (r5.2 27 9)) (T := TX1) dX8_bargain_38 rfl rfl rfl (by decide) (fun w hw => wsU_in (uw_X1 w hw)) fn_X8_185 rfl ?_
    refine AR.iload_n (pc := 41) (j := 1) dX8_bargain_41 rfl rfl ?_
    obtain ⟨r6, h6, h⟩ := bd_some h
    refine AR.callS (pc := 42) (As := [.long (r5.2 27 9), .int x1]) (st := []) dX8_bargain_42 ⟨cd_X8_worthIn, sm_X8_worthIn, ini_X8⟩ ml_X8_101 (A8_worthIn (r5.2 27 9) x1 r5 _ h6) ⟨rfl, pd_X8_worthIn⟩ ⟨Nat.le_of_ble_eq_true rfl, Nat.le_of_ble_eq_true rfl⟩ ⟨rfl, rfl⟩ rfl (Nat.le_of_ble_eq_true rfl) ?_
    refine AR.aload_n (pc := 45) (j := 0) dX8_bargain_45 rfl rfl ?_
    refine AR.getf (pc := 46) (ci := 8) (j := 5) (d := 27 + 2) (v := .ref 27) (T := TX8) dX8_bargain_46 rfl rfl rfl (by decide) (fun w hw => wsU_in (uw_X8 w hw)) (wsU_in fl_X8_72) rfl ?_
    refine AR.getfN (pc := 49) (ci := 1) (j := 9) (d := 1) (v := .long ((r6.2).2 27 9)) (T := TX1) dX8_bargain_49 rfl rfl rfl (by decide) (fun w hw => wsU_in (uw_X1 w hw)) fn_X8_185 rfl ?_
    refine AR.iload_n (pc := 52) (j := 2) dX8_bargain_52 rfl rfl ?_
    obtain ⟨r7, h7, h⟩ := bd_some h
    refine AR.callS (pc := 53) (As := [.long ((r6.2).2 27 9), .int x2]) (st := [.int (r6.1)]) dX8_bargain_53 ⟨cd_X8_worthIn, sm_X8_worthIn, ini_X8⟩ ml_X8_101 (A8_worthIn ((r6.2).2 27 9) x2 (r6.2) _ h7) ⟨rfl, pd_X8_worthIn⟩ ⟨Nat.le_of_ble_eq_true rfl, Nat.le_of_ble_eq_true rfl⟩ ⟨rfl, rfl⟩ rfl (Nat.le_of_ble_eq_true rfl) ?_
    refine AR.iadd (pc := 56) dX8_bargain_56 ?_
    refine AR.istore_n (pc := 57) (L2 := [(3, .int ((r6.1) + (r7.1))), (0, .ref 0), (1, .int x1), (2, .int x2)]) dX8_bargain_57 rfl (by decide) rfl ?_
    refine AR.aload_n (pc := 58) (j := 1) dX8_bargain_58 rfl rfl ?_
    refine AR.getf (pc := 59) (ci := 8) (j := 5) (d := 27 + 2) (v := .ref 27) (T := TX8) dX8_bargain_59 rfl rfl rfl (by decide) (fun w hw => wsU_in (uw_X8 w hw)) (wsU_in fl_X8_72) rfl ?_
    obtain ⟨r8, h8, h⟩ := bd_some h
    refine AR.callVN (pc := 62) (As := []) (st := []) (ci := 1) dX8_bargain_62 ⟨cd_X1_goFreely, im_X1_goFreely, se_X1_goFreely, ini_X1⟩ mn_X8_222 (A1_goFreely 20 grp20 (r7.2) _ h8) ⟨rfl, pd_X1_goFreely⟩ ⟨Nat.le_of_ble_eq_true rfl, Nat.le_of_ble_eq_true rfl⟩ ⟨rfl, rfl⟩ rfl rfl rfl (Nat.le_of_ble_eq_true rfl) ?_
    refine AR.iload_n (pc := 65) (j := 0) dX8_bargain_65 rfl rfl ?_
    refine AR.aload_n (pc := 66) (j := 1) dX8_bargain_66 rfl rfl ?_
    refine AR.getf (pc := 67) (ci := 8) (j := 5) (d := 27 + 2) (v := .ref 27) (T := TX8) dX8_bargain_67 rfl rfl rfl (by decide) (fun w hw => wsU_in (uw_X8 w hw)) (wsU_in fl_X8_72) rfl ?_
    refine AR.getfN (pc := 70) (ci := 1) (j := 9) (d := 1) (v := .long (r8.2 27 9)) (T := TX1) dX8_bargain_70 rfl rfl rfl (by decide) (fun w hw => wsU_in (uw_X1 w hw)) fn_X8_185 rfl ?_
    refine AR.iload_n (pc := 73) (j := 2) dX8_bargain_73 rfl rfl ?_
    obtain ⟨r9, h9, h⟩ := bd_some h
    refine AR.callS (pc := 74) (As := [.long (r8.2 27 9), .int x1]) (st := [.int ((r6.1) + (r7.1))]) dX8_bargain_74 ⟨cd_X8_worthIn, sm_X8_worthIn, ini_X8⟩ ml_X8_101 (A8_worthIn (r8.2 27 9) x1 r8 _ h9) ⟨rfl, pd_X8_worthIn⟩ ⟨Nat.le_of_ble_eq_true rfl, Nat.le_of_ble_eq_true rfl⟩ ⟨rfl, rfl⟩ rfl (Nat.le_of_ble_eq_true rfl) ?_
    refine AR.isub (pc := 77) dX8_bargain_77 ?_
    refine AR.aload_n (pc := 78) (j := 1) dX8_bargain_78 rfl rfl ?_
    refine AR.getf (pc := 79) (ci := 8) (j := 5) (d := 27 + 2) (v := .ref 27) (T := TX8) dX8_bargain_79 rfl rfl rfl (by decide) (fun w hw => wsU_in (uw_X8 w hw)) (wsU_in fl_X8_72) rfl ?_
    refine AR.getfN (pc := 82) (ci := 1) (j := 9) (d := 1) (v := .long ((r9.2).2 27 9)) (T := TX1) dX8_bargain_82 rfl rfl rfl (by decide) (fun w hw => wsU_in (uw_X1 w hw)) fn_X8_185 rfl ?_
    refine AR.iload_n (pc := 85) (j := 3) dX8_bargain_85 rfl rfl ?_
    obtain ⟨r10, h10, h⟩ := bd_some h
    refine AR.callS (pc := 86) (As := [.long ((r9.2).2 27 9), .int x2]) (st := [.int (((r6.1) + (r7.1)) - (r9.1))]) dX8_bargain_86 ⟨cd_X8_worthIn, sm_X8_worthIn, ini_X8⟩ ml_X8_101 (A8_worthIn ((r9.2).2 27 9) x2 (r9.2) _ h10) ⟨rfl, pd_X8_worthIn⟩ ⟨Nat.le_of_ble_eq_true rfl, Nat.le_of_ble_eq_true rfl⟩ ⟨rfl, rfl⟩ rfl (Nat.le_of_ble_eq_true rfl) ?_
    refine AR.isub (pc := 89) dX8_bargain_89 ?_
    refine AR.i2l (pc := 90) dX8_bargain_90 ?_
    exact AR.lret (pc := 91) rfl dX8_bargain_91 (hrL (Option.some.inj h))
  · replace h := ite_t c2 h
    refine AR.ldc2 (pc := 9) (v := (-9223372036854775808)) dX8_bargain_9 (wsU_in kl_X8_247) ?_
    exact AR.lret (pc := 12) rfl dX8_bargain_12 (hrL (Option.some.inj h))
set_option maxHeartbeats 4000000 in
set_option maxRecDepth 100000 in
theorem A8_motion {l : Launch} (x1 : Int32) (x2 : Int32) (x3 : Int32) (σ : HS) (r : Int32 × HS) (h : f8_motion x1 x2 x3 σ = some r) : MA l yX8_motion (wsU yX8_motion cX8_motion 4 (some .int)) rm8_motion SC [.ref 0, .int x1, .int x2, .int x3] σ (some (.int r.1), r.2) := by
  refine MA.of (L := [(0, .ref 0), (1, .int x1), (2, .int x2), (3, .int x3)]) pn_X8_motion rfl (fun _ => Nat.le_of_ble_eq_true rfl) (fun _ => rfl) ?_
  unfold f8_motion at h
  refine AR.aload_n (pc := 0) (j := 0) dX8_motion_0 rfl rfl ?_
  refine AR.getf (pc := 1) (ci := 8) (j := 1) (d := 5 + 2) (v := .ref 5) (T := TX8) dX8_motion_1 rfl rfl rfl (by decide) (fun w hw => wsU_in (uw_X8 w hw)) (wsU_in fl_X8_32) rfl ?_
  refine AR.iload_n (pc := 4) (j := 1) dX8_motion_4 rfl rfl ?_
  refine AR.iload_n (pc := 5) (j := 2) dX8_motion_5 rfl rfl ?_
  obtain ⟨r1, h1, h⟩ := bd_some h
  refine AR.callVN (pc := 6) (As := [.int x1, .int x2]) (st := []) (ci := 4) dX8_motion_6 ⟨cd_X4_hasWord, im_X4_hasWord, se_X4_hasWord, ini_X4⟩ mn_X8_147 (A4_hasWord x1 x2 σ _ h1) ⟨rfl, pd_X4_hasWord⟩ ⟨Nat.le_of_ble_eq_true rfl, Nat.le_of_ble_eq_true rfl⟩ ⟨rfl, rfl⟩ rfl rfl rfl (Nat.le_of_ble_eq_true rfl) ?_
  refine AR.if_eq (pc := 9) (tgt := 28) dX8_motion_9 (by decide) (fun c2 => ?_) (fun c2 => ?_)
  · replace h := ite_t c2 h
    refine AR.iconst (pc := 28) (v := (-1)) dX8_motion_28 (by decide) ?_
    exact AR.iret (pc := 29) rfl dX8_motion_29 (hrI (Option.some.inj h))
  · replace h := ite_f c2 h
    refine AR.iload_n (pc := 12) (j := 3) dX8_motion_12 rfl rfl ?_
    refine AR.iconst (pc := 13) (v := (-1)) dX8_motion_13 (by decide) ?_
    refine AR.icmp_lt (pc := 14) (tgt := 28) dX8_motion_14 (by decide) (fun c3 => ?_) (fun c3 => ?_)
    · replace h := ite_t c3 h
      refine AR.iconst (pc := 28) (v := (-1)) dX8_motion_28 (by decide) ?_
      exact AR.iret (pc := 29) rfl dX8_motion_29 (hrI (Option.some.inj h))
    · replace h := ite_f c3 h
      refine AR.iload_n (pc := 17) (j := 3) dX8_motion_17 rfl rfl ?_
      refine AR.aload_n (pc := 18) (j := 0) dX8_motion_18 rfl rfl ?_
      refine AR.getf (pc := 19) (ci := 8) (j := 1) (d := 5 + 2) (v := .ref 5) (T := TX8) dX8_motion_19 rfl rfl rfl (by decide) (fun w hw => wsU_in (uw_X8 w hw)) (wsU_in fl_X8_32) rfl ?_
      refine AR.getfN (pc := 22) (ci := 4) (j := 0) (d := 0) (v := .int ((r1.2).1 5 0)) (T := TX4) dX8_motion_22 rfl rfl rfl (by decide) (fun w hw => wsU_in (uw_X4 w hw)) fn_X8_132 rfl ?_
      refine AR.icmp_lt (pc := 25) (tgt := 30) dX8_motion_25 (by decide) (fun c4 => ?_) (fun c4 => ?_)
      · replace h := ite_t c4 h
        refine AR.aload_n (pc := 30) (j := 0) dX8_motion_30 rfl rfl ?_
        refine AR.getf (pc := 31) (ci := 8) (j := 10) (d := 44 + 2) (v := .ref 44) (T := TX8) dX8_motion_31 rfl rfl rfl (by decide) (fun w hw => wsU_in (uw_X8 w hw)) (wsU_in fl_X8_97) rfl ?_
        obtain ⟨r5, h5, h⟩ := bd_some h
        refine AR.callVN (pc := 34) (As := []) (st := []) (ci := 3) dX8_motion_34 ⟨cd_X3_seek, im_X3_seek, se_X3_seek, ini_X3⟩ mn_X8_255 (A3_seek (r1.2) _ h5) ⟨rfl, pd_X3_seek⟩ ⟨Nat.le_of_ble_eq_true rfl, Nat.le_of_ble_eq_true rfl⟩ ⟨rfl, rfl⟩ rfl rfl rfl (Nat.le_of_ble_eq_true rfl) ?_
        refine AR.aload_n (pc := 37) (j := 0) dX8_motion_37 rfl rfl ?_
        refine AR.getf (pc := 38) (ci := 8) (j := 10) (d := 44 + 2) (v := .ref 44) (T := TX8) dX8_motion_38 rfl rfl rfl (by decide) (fun w hw => wsU_in (uw_X8 w hw)) (wsU_in fl_X8_97) rfl ?_
        refine AR.iload_n (pc := 41) (j := 1) dX8_motion_41 rfl rfl ?_
        refine AR.iload_n (pc := 42) (j := 2) dX8_motion_42 rfl rfl ?_
        obtain ⟨r6, h6, h⟩ := bd_some h
        refine AR.callVN (pc := 43) (As := [.int x1, .int x2]) (st := []) (ci := 3) dX8_motion_43 ⟨cd_X3_isFound, im_X3_isFound, se_X3_isFound, ini_X3⟩ mn_X8_258 (A3_isFound x1 x2 r5 _ h6) ⟨rfl, pd_X3_isFound⟩ ⟨Nat.le_of_ble_eq_true rfl, Nat.le_of_ble_eq_true rfl⟩ ⟨rfl, rfl⟩ rfl rfl rfl (Nat.le_of_ble_eq_true rfl) ?_
        refine AR.if_ne (pc := 46) (tgt := 52) dX8_motion_46 (by decide) (fun c7 => ?_) (fun c7 => ?_)
        · replace h := ite_f c7 h
          refine AR.iload_n (pc := 52) (j := 3) dX8_motion_52 rfl rfl ?_
          refine AR.iconst (pc := 53) (v := (-1)) dX8_motion_53 (by decide) ?_
          refine AR.icmp_ne (pc := 54) (tgt := 69) dX8_motion_54 (by decide) (fun c8 => ?_) (fun c8 => ?_)
          · replace h := ite_f c8 h
            refine AR.aload_n (pc := 69) (j := 0) dX8_motion_69 rfl rfl ?_
            refine AR.getf (pc := 70) (ci := 8) (j := 10) (d := 44 + 2) (v := .ref 44) (T := TX8) dX8_motion_70 rfl rfl rfl (by decide) (fun w hw => wsU_in (uw_X8 w hw)) (wsU_in fl_X8_97) rfl ?_
            refine AR.iload_n (pc := 73) (j := 1) dX8_motion_73 rfl rfl ?_
            refine AR.iload_n (pc := 74) (j := 2) dX8_motion_74 rfl rfl ?_
            refine AR.iload_n (pc := 75) (j := 3) dX8_motion_75 rfl rfl ?_
            obtain ⟨r9, h9, h⟩ := bd_some h
            refine AR.callVN (pc := 76) (As := [.int x1, .int x2, .int x3]) (st := []) (ci := 3) dX8_motion_76 ⟨cd_X3_whoFor, im_X3_whoFor, se_X3_whoFor, ini_X3⟩ mn_X8_264 (A3_whoFor x1 x2 x3 (r6.2) _ h9) ⟨rfl, pd_X3_whoFor⟩ ⟨Nat.le_of_ble_eq_true rfl, Nat.le_of_ble_eq_true rfl⟩ ⟨rfl, rfl⟩ rfl rfl rfl (Nat.le_of_ble_eq_true rfl) ?_
            exact AR.iret (pc := 79) rfl dX8_motion_79 (hrI (Option.some.inj h))
          · replace h := ite_t c8 h
            refine AR.aload_n (pc := 57) (j := 0) dX8_motion_57 rfl rfl ?_
            refine AR.getf (pc := 58) (ci := 8) (j := 10) (d := 44 + 2) (v := .ref 44) (T := TX8) dX8_motion_58 rfl rfl rfl (by decide) (fun w hw => wsU_in (uw_X8 w hw)) (wsU_in fl_X8_97) rfl ?_
            refine AR.iload_n (pc := 61) (j := 1) dX8_motion_61 rfl rfl ?_
            refine AR.iload_n (pc := 62) (j := 2) dX8_motion_62 rfl rfl ?_
            obtain ⟨r10, h10, h⟩ := bd_some h
            refine AR.callVN (pc := 63) (As := [.int x1, .int x2]) (st := []) (ci := 3) dX8_motion_63 ⟨cd_X3_changesFor, im_X3_changesFor, se_X3_changesFor, ini_X3⟩ mn_X8_261 (A3_changesFor x1 x2 (r6.2) _ h10) ⟨rfl, pd_X3_changesFor⟩ ⟨Nat.le_of_ble_eq_true rfl, Nat.le_of_ble_eq_true rfl⟩ ⟨rfl, rfl⟩ rfl rfl rfl (Nat.le_of_ble_eq_true rfl) ?_
            refine AR.goto (pc := 66) (tgt := 79) dX8_motion_66 (by decide) ?_
            exact AR.iret (pc := 79) rfl dX8_motion_79 (hrI (Option.some.inj h))
        · replace h := ite_t c7 h
          refine AR.bipush (pc := 49) (v := (-9)) dX8_motion_49 (by decide) ?_
          exact AR.iret (pc := 51) rfl dX8_motion_51 (hrI (Option.some.inj h))
      · replace h := ite_f c4 h
        refine AR.iconst (pc := 28) (v := (-1)) dX8_motion_28 (by decide) ?_
        exact AR.iret (pc := 29) rfl dX8_motion_29 (hrI (Option.some.inj h))
set_option maxHeartbeats 4000000 in
set_option maxRecDepth 100000 in
theorem A8_canSilence_95 {l : Launch} (k43 : Int32 × Int32 × HS → Option (Int32 × HS)) (x1 : Int32) (x2 : Int32) (x3 : Int32) (x4 : Int32) (x6 : Int32) (z0 : Int32) (hk43 : ∀ (p : Int32 × Int32 × HS) (r : Int32 × HS), k43 p = some r → AR l RX8 cX8_canSilence 7 (some .boolean) (wsU yX8_canSilence cX8_canSilence 7 (some .boolean)) rm8_canSilence SC 43 [(0, .ref 0), (1, .int x1), (2, .int x2), (3, .int x3), (4, .int x4), (5, .int (p.1)), (6, .int (p.2.1))] [] p.2.2 (some (.int r.1), r.2)) (σ : HS) (r : Int32 × HS) (h : f8_canSilence_95 k43 x1 x2 x3 x4 x6 z0 σ = some r) : AR l RX8 cX8_canSilence 7 (some .boolean) (wsU yX8_canSilence cX8_canSilence 7 (some .boolean)) rm8_canSilence SC 95 [(0, .ref 0), (1, .int x1), (2, .int x2), (3, .int x3), (4, .int x4), (6, .int x6)] [.int z0] σ (some (.int r.1), r.2) := by
  unfold f8_canSilence_95 at h
  refine AR.istore (pc := 95) (L2 := [(5, .int z0), (0, .ref 0), (1, .int x1), (2, .int x2), (3, .int x3), (4, .int x4), (6, .int x6)]) dX8_canSilence_95 (by decide) rfl ?_
  refine AR.iinc (pc := 97) (j := 6) (v := (x6 + 1)) (L2 := [(6, .int (x6 + 1)), (5, .int z0), (0, .ref 0), (1, .int x1), (2, .int x2), (3, .int x3), (4, .int x4)]) dX8_canSilence_97 rfl rfl (by decide) rfl ?_
  refine AR.goto (pc := 100) (tgt := 43) dX8_canSilence_100 (by decide) ?_
  exact AR.pick [2, 3, 4, 5, 6, 1, 0] rfl (hk43 (z0, (x6 + 1), σ) r h)
set_option maxHeartbeats 4000000 in
set_option maxRecDepth 100000 in
theorem A8_canSilence_43_b {l : Launch} (k43 : Int32 × Int32 × HS → Option (Int32 × HS)) (x1 : Int32) (x2 : Int32) (x3 : Int32) (x4 : Int32) (x5 : Int32) (x6 : Int32) (hk43 : ∀ (p : Int32 × Int32 × HS) (r : Int32 × HS), k43 p = some r → AR l RX8 cX8_canSilence 7 (some .boolean) (wsU yX8_canSilence cX8_canSilence 7 (some .boolean)) rm8_canSilence SC 43 [(0, .ref 0), (1, .int x1), (2, .int x2), (3, .int x3), (4, .int x4), (5, .int (p.1)), (6, .int (p.2.1))] [] p.2.2 (some (.int r.1), r.2)) (σ : HS) (r : Int32 × HS) (h : f8_canSilence_43_b k43 x1 x2 x3 x4 x5 x6 σ = some r) : AR l RX8 cX8_canSilence 7 (some .boolean) (wsU yX8_canSilence cX8_canSilence 7 (some .boolean)) rm8_canSilence SC 43 [(0, .ref 0), (1, .int x1), (2, .int x2), (3, .int x3), (4, .int x4), (5, .int x5), (6, .int x6)] [] σ (some (.int r.1), r.2) := by
  unfold f8_canSilence_43_b at h
  refine AR.iload (pc := 43) (j := 6) dX8_canSilence_43 rfl ?_
  refine AR.aload_n (pc := 45) (j := 0) dX8_canSilence_45 rfl rfl ?_
  refine AR.getf (pc := 46) (ci := 8) (j := 1) (d := 5 + 2) (v := .ref 5) (T := TX8) dX8_canSilence_46 rfl rfl rfl (by decide) (fun w hw => wsU_in (uw_X8 w hw)) (wsU_in fl_X8_32) rfl ?_
  refine AR.iload_n (pc := 49) (j := 1) dX8_canSilence_49 rfl rfl ?_
  obtain ⟨r1, h1, h⟩ := bd_some h
  refine AR.callVN (pc := 50) (As := [.int x1]) (st := [.int x6]) (ci := 4) dX8_canSilence_50 ⟨cd_X4_wordsOf, im_X4_wordsOf, se_X4_wordsOf, ini_X4⟩ mn_X8_142 (A4_wordsOf 5 ppl5 x1 σ _ h1) ⟨rfl, pd_X4_wordsOf⟩ ⟨Nat.le_of_ble_eq_true rfl, Nat.le_of_ble_eq_true rfl⟩ ⟨rfl, rfl⟩ rfl rfl rfl (Nat.le_of_ble_eq_true rfl) ?_
  refine AR.icmp_ge (pc := 53) (tgt := 103) dX8_canSilence_53 (by decide) (fun c2 => ?_) (fun c2 => ?_)
  · replace h := ite_t c2 h
    refine AR.iload (pc := 103) (j := 5) dX8_canSilence_103 rfl ?_
    obtain ⟨c3, h⟩ := gp_some h
    exact AR.zret (pc := 105) rfl c3 dX8_canSilence_105 (hrI (Option.some.inj h))
  · replace h := ite_f c2 h
    refine AR.iload (pc := 56) (j := 6) dX8_canSilence_56 rfl ?_
    refine AR.iconst (pc := 58) (v := 3) dX8_canSilence_58 (by decide) ?_
    refine AR.icmp_ge (pc := 59) (tgt := 103) dX8_canSilence_59 (by decide) (fun c4 => ?_) (fun c4 => ?_)
    · replace h := ite_t c4 h
      refine AR.iload (pc := 103) (j := 5) dX8_canSilence_103 rfl ?_
      obtain ⟨c5, h⟩ := gp_some h
      exact AR.zret (pc := 105) rfl c5 dX8_canSilence_105 (hrI (Option.some.inj h))
    · replace h := ite_f c4 h
      refine AR.iload (pc := 62) (j := 5) dX8_canSilence_62 rfl ?_
      refine AR.if_ne (pc := 64) (tgt := 103) dX8_canSilence_64 (by decide) (fun c6 => ?_) (fun c6 => ?_)
      · replace h := ite_f c6 h
        refine AR.iload (pc := 103) (j := 5) dX8_canSilence_103 rfl ?_
        obtain ⟨c7, h⟩ := gp_some h
        exact AR.zret (pc := 105) rfl c7 dX8_canSilence_105 (hrI (Option.some.inj h))
      · replace h := ite_t c6 h
        refine AR.aload_n (pc := 67) (j := 0) dX8_canSilence_67 rfl rfl ?_
        refine AR.getf (pc := 68) (ci := 8) (j := 5) (d := 27 + 2) (v := .ref 27) (T := TX8) dX8_canSilence_68 rfl rfl rfl (by decide) (fun w hw => wsU_in (uw_X8 w hw)) (wsU_in fl_X8_72) rfl ?_
        refine AR.iload (pc := 71) (j := 4) dX8_canSilence_71 rfl ?_
        refine AR.iload (pc := 73) (j := 6) dX8_canSilence_73 rfl ?_
        obtain ⟨r8, h8, h⟩ := bd_some h
        refine AR.callVN (pc := 75) (As := [.int x4, .int x6]) (st := []) (ci := 1) dX8_canSilence_75 ⟨cd_X1_goForced, im_X1_goForced, se_X1_goForced, ini_X1⟩ mn_X8_249 (A1_goForced 20 grp20 x4 x6 (r1.2) _ h8) ⟨rfl, pd_X1_goForced⟩ ⟨Nat.le_of_ble_eq_true rfl, Nat.le_of_ble_eq_true rfl⟩ ⟨rfl, rfl⟩ rfl rfl rfl (Nat.le_of_ble_eq_true rfl) ?_
        refine AR.aload_n (pc := 78) (j := 0) dX8_canSilence_78 rfl rfl ?_
        refine AR.getf (pc := 79) (ci := 8) (j := 5) (d := 27 + 2) (v := .ref 27) (T := TX8) dX8_canSilence_79 rfl rfl rfl (by decide) (fun w hw => wsU_in (uw_X8 w hw)) (wsU_in fl_X8_72) rfl ?_
        refine AR.iload_n (pc := 82) (j := 2) dX8_canSilence_82 rfl rfl ?_
        refine AR.iload_n (pc := 83) (j := 3) dX8_canSilence_83 rfl rfl ?_
        obtain ⟨r9, h9, h⟩ := bd_some h
        refine AR.callVN (pc := 84) (As := [.int x2, .int x3]) (st := []) (ci := 1) dX8_canSilence_84 ⟨cd_X1_hasSaid, im_X1_hasSaid, se_X1_hasSaid, ini_X1⟩ mn_X8_271 (A1_hasSaid x2 x3 r8 _ h9) ⟨rfl, pd_X1_hasSaid⟩ ⟨Nat.le_of_ble_eq_true rfl, Nat.le_of_ble_eq_true rfl⟩ ⟨rfl, rfl⟩ rfl rfl rfl (Nat.le_of_ble_eq_true rfl) ?_
        refine AR.if_ne (pc := 87) (tgt := 94) dX8_canSilence_87 (by decide) (fun c10 => ?_) (fun c10 => ?_)
        · replace h := ite_f c10 h
          refine AR.iconst (pc := 94) (v := 0) dX8_canSilence_94 (by decide) ?_
          exact AR.pick [0, 1, 2, 3, 4, 6] rfl (A8_canSilence_95 k43 x1 x2 x3 x4 x6 0 hk43 (r9.2) r h)
        · replace h := ite_t c10 h
          refine AR.iconst (pc := 90) (v := 1) dX8_canSilence_90 (by decide) ?_
          refine AR.goto (pc := 91) (tgt := 95) dX8_canSilence_91 (by decide) ?_
          exact AR.pick [0, 1, 2, 3, 4, 6] rfl (A8_canSilence_95 k43 x1 x2 x3 x4 x6 1 hk43 (r9.2) r h)
theorem A8_canSilence_43 {l : Launch} (x1 : Int32) (x2 : Int32) (x3 : Int32) (x4 : Int32) (p : Int32 × Int32 × HS) (r : Int32 × HS) (h : f8_canSilence_43 x1 x2 x3 x4 p = some r) : AR l RX8 cX8_canSilence 7 (some .boolean) (wsU yX8_canSilence cX8_canSilence 7 (some .boolean)) rm8_canSilence SC 43 [(0, .ref 0), (1, .int x1), (2, .int x2), (3, .int x3), (4, .int x4), (5, .int (p.1)), (6, .int (p.2.1))] [] p.2.2 (some (.int r.1), r.2) := by
  unfold f8_canSilence_43 at h
  exact wloop_run (body := fun k43 p => f8_canSilence_43_b k43 x1 x2 x3 x4 p.1 p.2.1 p.2.2) (Q := fun p r => AR l RX8 cX8_canSilence 7 (some .boolean) (wsU yX8_canSilence cX8_canSilence 7 (some .boolean)) rm8_canSilence SC 43 [(0, .ref 0), (1, .int x1), (2, .int x2), (3, .int x3), (4, .int x4), (5, .int (p.1)), (6, .int (p.2.1))] [] p.2.2 (some (.int r.1), r.2)) (fun k43 hk43 p r h => A8_canSilence_43_b k43 x1 x2 x3 x4 p.1 p.2.1 hk43 p.2.2 r h) fuelN p r h
set_option maxHeartbeats 4000000 in
set_option maxRecDepth 100000 in
theorem A8_canSilence_38 {l : Launch} (x1 : Int32) (x2 : Int32) (x3 : Int32) (x4 : Int32) (z0 : Int32) (σ : HS) (r : Int32 × HS) (h : f8_canSilence_38 x1 x2 x3 x4 z0 σ = some r) : AR l RX8 cX8_canSilence 7 (some .boolean) (wsU yX8_canSilence cX8_canSilence 7 (some .boolean)) rm8_canSilence SC 38 [(0, .ref 0), (1, .int x1), (2, .int x2), (3, .int x3), (4, .int x4)] [.int z0] σ (some (.int r.1), r.2) := by
  unfold f8_canSilence_38 at h
  refine AR.istore (pc := 38) (L2 := [(5, .int z0), (0, .ref 0), (1, .int x1), (2, .int x2), (3, .int x3), (4, .int x4)]) dX8_canSilence_38 (by decide) rfl ?_
  refine AR.iconst (pc := 40) (v := 0) dX8_canSilence_40 (by decide) ?_
  refine AR.istore (pc := 41) (L2 := [(6, .int 0), (5, .int z0), (0, .ref 0), (1, .int x1), (2, .int x2), (3, .int x3), (4, .int x4)]) dX8_canSilence_41 (by decide) rfl ?_
  exact AR.pick [2, 3, 4, 5, 6, 1, 0] rfl (A8_canSilence_43 x1 x2 x3 x4 (z0, 0, σ) r h)
set_option maxHeartbeats 4000000 in
set_option maxRecDepth 100000 in
theorem A8_canSilence {l : Launch} (x1 : Int32) (x2 : Int32) (x3 : Int32) (σ : HS) (r : Int32 × HS) (h : f8_canSilence x1 x2 x3 σ = some r) : MA l yX8_canSilence (wsU yX8_canSilence cX8_canSilence 7 (some .boolean)) rm8_canSilence SC [.ref 0, .int x1, .int x2, .int x3] σ (some (.int r.1), r.2) := by
  refine MA.of (L := [(0, .ref 0), (1, .int x1), (2, .int x2), (3, .int x3)]) pn_X8_canSilence rfl (fun _ => Nat.le_of_ble_eq_true rfl) (fun _ => rfl) ?_
  unfold f8_canSilence at h
  refine AR.aload_n (pc := 0) (j := 0) dX8_canSilence_0 rfl rfl ?_
  refine AR.getf (pc := 1) (ci := 8) (j := 3) (d := 20 + 2) (v := .ref 20) (T := TX8) dX8_canSilence_1 rfl rfl rfl (by decide) (fun w hw => wsU_in (uw_X8 w hw)) (wsU_in fl_X8_54) rfl ?_
  refine AR.iload_n (pc := 4) (j := 1) dX8_canSilence_4 rfl rfl ?_
  obtain ⟨r1, h1, h⟩ := bd_some h
  refine AR.callVN (pc := 5) (As := [.int x1]) (st := []) (ci := 0) dX8_canSilence_5 ⟨cd_X0_placeOf, im_X0_placeOf, se_X0_placeOf, ini_X0⟩ mn_X8_145 (A0_placeOf x1 σ _ h1) ⟨rfl, pd_X0_placeOf⟩ ⟨Nat.le_of_ble_eq_true rfl, Nat.le_of_ble_eq_true rfl⟩ ⟨rfl, rfl⟩ rfl rfl rfl (Nat.le_of_ble_eq_true rfl) ?_
  refine AR.istore (pc := 8) (L2 := [(4, .int (r1.1)), (0, .ref 0), (1, .int x1), (2, .int x2), (3, .int x3)]) dX8_canSilence_8 (by decide) rfl ?_
  refine AR.aload_n (pc := 10) (j := 1) dX8_canSilence_10 rfl rfl ?_
  refine AR.getf (pc := 11) (ci := 8) (j := 5) (d := 27 + 2) (v := .ref 27) (T := TX8) dX8_canSilence_11 rfl rfl rfl (by decide) (fun w hw => wsU_in (uw_X8 w hw)) (wsU_in fl_X8_72) rfl ?_
  refine AR.iload (pc := 14) (j := 0) dX8_canSilence_14 rfl ?_
  refine AR.bipush (pc := 16) (v := (-9)) dX8_canSilence_16 (by decide) ?_
  obtain ⟨r2, h2, h⟩ := bd_some h
  refine AR.callVN (pc := 18) (As := [.int (r1.1), .int (-9)]) (st := []) (ci := 1) dX8_canSilence_18 ⟨cd_X1_goForced, im_X1_goForced, se_X1_goForced, ini_X1⟩ mn_X8_249 (A1_goForced 20 grp20 (r1.1) (-9) (r1.2) _ h2) ⟨rfl, pd_X1_goForced⟩ ⟨Nat.le_of_ble_eq_true rfl, Nat.le_of_ble_eq_true rfl⟩ ⟨rfl, rfl⟩ rfl rfl rfl (Nat.le_of_ble_eq_true rfl) ?_
  refine AR.aload_n (pc := 21) (j := 1) dX8_canSilence_21 rfl rfl ?_
  refine AR.getf (pc := 22) (ci := 8) (j := 5) (d := 27 + 2) (v := .ref 27) (T := TX8) dX8_canSilence_22 rfl rfl rfl (by decide) (fun w hw => wsU_in (uw_X8 w hw)) (wsU_in fl_X8_72) rfl ?_
  refine AR.iload_n (pc := 25) (j := 3) dX8_canSilence_25 rfl rfl ?_
  refine AR.iload_n (pc := 26) (j := 4) dX8_canSilence_26 rfl rfl ?_
  obtain ⟨r3, h3, h⟩ := bd_some h
  refine AR.callVN (pc := 27) (As := [.int x2, .int x3]) (st := []) (ci := 1) dX8_canSilence_27 ⟨cd_X1_hasSaid, im_X1_hasSaid, se_X1_hasSaid, ini_X1⟩ mn_X8_271 (A1_hasSaid x2 x3 r2 _ h3) ⟨rfl, pd_X1_hasSaid⟩ ⟨Nat.le_of_ble_eq_true rfl, Nat.le_of_ble_eq_true rfl⟩ ⟨rfl, rfl⟩ rfl rfl rfl (Nat.le_of_ble_eq_true rfl) ?_
  refine AR.if_ne (pc := 30) (tgt := 37) dX8_canSilence_30 (by decide) (fun c4 => ?_) (fun c4 => ?_)
  · replace h := ite_f c4 h
    refine AR.iconst (pc := 37) (v := 0) dX8_canSilence_37 (by decide) ?_
    exact AR.pick [1, 2, 3, 4, 0] rfl (A8_canSilence_38 x1 x2 x3 (r1.1) 0 (r3.2) r h)
  · replace h := ite_t c4 h
    refine AR.iconst (pc := 33) (v := 1) dX8_canSilence_33 (by decide) ?_
    refine AR.goto (pc := 34) (tgt := 38) dX8_canSilence_34 (by decide) ?_
    exact AR.pick [1, 2, 3, 4, 0] rfl (A8_canSilence_38 x1 x2 x3 (r1.1) 1 (r3.2) r h)
set_option maxHeartbeats 4000000 in
set_option maxRecDepth 100000 in
theorem A8_dry_65 {l : Launch} (k23 : Int32 × Int32 × HS → Option (Int32 × HS)) (x1 : Int32) (x2 : Int32) (x3 : Int32) (x4 : Int32) (hk23 : ∀ (p : Int32 × Int32 × HS) (r : Int32 × HS), k23 p = some r → AR l RX8 cX8_dry 5 (some .int) (wsU yX8_dry cX8_dry 5 (some .int)) rm8_dry SC 23 [(0, .ref 0), (1, .int x1), (2, .int x2), (3, .int (p.1)), (4, .int (p.2.1))] [] p.2.2 (some (.int r.1), r.2)) (σ : HS) (r : Int32 × HS) (h : f8_dry_65 k23 x1 x2 x3 x4 σ = some r) : AR l RX8 cX8_dry 5 (some .int) (wsU yX8_dry cX8_dry 5 (some .int)) rm8_dry SC 65 [(0, .ref 0), (1, .int x1), (2, .int x2), (3, .int x3), (4, .int x4)] [] σ (some (.int r.1), r.2) := by
  unfold f8_dry_65 at h
  refine AR.iinc (pc := 65) (j := 4) (v := (x4 + 1)) (L2 := [(4, .int (x4 + 1)), (0, .ref 0), (1, .int x1), (2, .int x2), (3, .int x3)]) dX8_dry_65 rfl rfl (by decide) rfl ?_
  refine AR.goto (pc := 68) (tgt := 23) dX8_dry_68 (by decide) ?_
  exact AR.pick [1, 2, 3, 4, 0] rfl (hk23 (x3, (x4 + 1), σ) r h)
set_option maxHeartbeats 4000000 in
set_option maxRecDepth 100000 in
theorem A8_dry_23_b {l : Launch} (k23 : Int32 × Int32 × HS → Option (Int32 × HS)) (x1 : Int32) (x2 : Int32) (x3 : Int32) (x4 : Int32) (hk23 : ∀ (p : Int32 × Int32 × HS) (r : Int32 × HS), k23 p = some r → AR l RX8 cX8_dry 5 (some .int) (wsU yX8_dry cX8_dry 5 (some .int)) rm8_dry SC 23 [(0, .ref 0), (1, .int x1), (2, .int x2), (3, .int (p.1)), (4, .int (p.2.1))] [] p.2.2 (some (.int r.1), r.2)) (σ : HS) (r : Int32 × HS) (h : f8_dry_23_b k23 x1 x2 x3 x4 σ = some r) : AR l RX8 cX8_dry 5 (some .int) (wsU yX8_dry cX8_dry 5 (some .int)) rm8_dry SC 23 [(0, .ref 0), (1, .int x1), (2, .int x2), (3, .int x3), (4, .int x4)] [] σ (some (.int r.1), r.2) := by
  unfold f8_dry_23_b at h
  refine AR.iload (pc := 23) (j := 4) dX8_dry_23 rfl ?_
  refine AR.aload_n (pc := 25) (j := 0) dX8_dry_25 rfl rfl ?_
  refine AR.getf (pc := 26) (ci := 8) (j := 1) (d := 5 + 2) (v := .ref 5) (T := TX8) dX8_dry_26 rfl rfl rfl (by decide) (fun w hw => wsU_in (uw_X8 w hw)) (wsU_in fl_X8_32) rfl ?_
  refine AR.getfN (pc := 29) (ci := 4) (j := 0) (d := 0) (v := .int (σ.1 5 0)) (T := TX4) dX8_dry_29 rfl rfl rfl (by decide) (fun w hw => wsU_in (uw_X4 w hw)) fn_X8_132 rfl ?_
  refine AR.icmp_ge (pc := 32) (tgt := 71) dX8_dry_32 (by decide) (fun c1 => ?_) (fun c1 => ?_)
  · replace h := ite_t c1 h
    refine AR.iload_n (pc := 71) (j := 3) dX8_dry_71 rfl rfl ?_
    exact AR.iret (pc := 72) rfl dX8_dry_72 (hrI (Option.some.inj h))
  · replace h := ite_f c1 h
    refine AR.iload (pc := 35) (j := 4) dX8_dry_35 rfl ?_
    refine AR.iconst (pc := 37) (v := 5) dX8_dry_37 (by decide) ?_
    refine AR.icmp_ge (pc := 38) (tgt := 71) dX8_dry_38 (by decide) (fun c2 => ?_) (fun c2 => ?_)
    · replace h := ite_t c2 h
      refine AR.iload_n (pc := 71) (j := 3) dX8_dry_71 rfl rfl ?_
      exact AR.iret (pc := 72) rfl dX8_dry_72 (hrI (Option.some.inj h))
    · replace h := ite_f c2 h
      refine AR.iload (pc := 41) (j := 4) dX8_dry_41 rfl ?_
      refine AR.iload_n (pc := 43) (j := 1) dX8_dry_43 rfl rfl ?_
      refine AR.icmp_eq (pc := 44) (tgt := 65) dX8_dry_44 (by decide) (fun c3 => ?_) (fun c3 => ?_)
      · replace h := ite_t c3 h
        exact AR.pick [0, 1, 2, 3, 4] rfl (A8_dry_65 k23 x1 x2 x3 x4 hk23 σ r h)
      · replace h := ite_f c3 h
        refine AR.aload_n (pc := 47) (j := 0) dX8_dry_47 rfl rfl ?_
        refine AR.iload (pc := 48) (j := 4) dX8_dry_48 rfl ?_
        refine AR.iload_n (pc := 50) (j := 1) dX8_dry_50 rfl rfl ?_
        refine AR.iload_n (pc := 51) (j := 2) dX8_dry_51 rfl rfl ?_
        obtain ⟨r4, h4, h⟩ := bd_some h
        refine AR.callV (pc := 52) (As := [.int x4, .int x1, .int x2]) (st := []) (ci := 8) dX8_dry_52 ⟨cd_X8_canSilence, im_X8_canSilence, se_X8_canSilence, ini_X8⟩ ml_X8_268 (A8_canSilence x4 x1 x2 σ _ h4) ⟨rfl, pd_X8_canSilence⟩ ⟨Nat.le_of_ble_eq_true rfl, Nat.le_of_ble_eq_true rfl⟩ ⟨rfl, rfl⟩ rfl rfl rfl (Nat.le_of_ble_eq_true rfl) ?_
        refine AR.if_eq (pc := 55) (tgt := 65) dX8_dry_55 (by decide) (fun c5 => ?_) (fun c5 => ?_)
        · replace h := ite_t c5 h
          exact AR.pick [0, 1, 2, 3, 4] rfl (A8_dry_65 k23 x1 x2 x3 x4 hk23 (r4.2) r h)
        · replace h := ite_f c5 h
          refine AR.iload_n (pc := 58) (j := 3) dX8_dry_58 rfl rfl ?_
          refine AR.iconst (pc := 59) (v := 1) dX8_dry_59 (by decide) ?_
          refine AR.iload (pc := 60) (j := 4) dX8_dry_60 rfl ?_
          refine AR.ishl (pc := 62) dX8_dry_62 ?_
          refine AR.ior (pc := 63) dX8_dry_63 ?_
          refine AR.istore_n (pc := 64) (L2 := [(3, .int (x3 ||| (1 <<< (x4 &&& 31)))), (0, .ref 0), (1, .int x1), (2, .int x2), (4, .int x4)]) dX8_dry_64 rfl (by decide) rfl ?_
          exact AR.pick [1, 2, 3, 0, 4] rfl (A8_dry_65 k23 x1 x2 (x3 ||| (1 <<< (x4 &&& 31))) x4 hk23 (r4.2) r h)
theorem A8_dry_23 {l : Launch} (x1 : Int32) (x2 : Int32) (p : Int32 × Int32 × HS) (r : Int32 × HS) (h : f8_dry_23 x1 x2 p = some r) : AR l RX8 cX8_dry 5 (some .int) (wsU yX8_dry cX8_dry 5 (some .int)) rm8_dry SC 23 [(0, .ref 0), (1, .int x1), (2, .int x2), (3, .int (p.1)), (4, .int (p.2.1))] [] p.2.2 (some (.int r.1), r.2) := by
  unfold f8_dry_23 at h
  exact wloop_run (body := fun k23 p => f8_dry_23_b k23 x1 x2 p.1 p.2.1 p.2.2) (Q := fun p r => AR l RX8 cX8_dry 5 (some .int) (wsU yX8_dry cX8_dry 5 (some .int)) rm8_dry SC 23 [(0, .ref 0), (1, .int x1), (2, .int x2), (3, .int (p.1)), (4, .int (p.2.1))] [] p.2.2 (some (.int r.1), r.2)) (fun k23 hk23 p r h => A8_dry_23_b k23 x1 x2 p.1 p.2.1 hk23 p.2.2 r h) fuelN p r h
set_option maxHeartbeats 4000000 in
set_option maxRecDepth 100000 in
theorem A8_dry {l : Launch} (x1 : Int32) (x2 : Int32) (σ : HS) (r : Int32 × HS) (h : f8_dry x1 x2 σ = some r) : MA l yX8_dry (wsU yX8_dry cX8_dry 5 (some .int)) rm8_dry SC [.ref 0, .int x1, .int x2] σ (some (.int r.1), r.2) := by
  refine MA.of (L := [(0, .ref 0), (1, .int x1), (2, .int x2)]) pn_X8_dry rfl (fun _ => Nat.le_of_ble_eq_true rfl) (fun _ => rfl) ?_
  unfold f8_dry at h
  refine AR.aload_n (pc := 0) (j := 0) dX8_dry_0 rfl rfl ?_
  refine AR.getf (pc := 1) (ci := 8) (j := 1) (d := 5 + 2) (v := .ref 5) (T := TX8) dX8_dry_1 rfl rfl rfl (by decide) (fun w hw => wsU_in (uw_X8 w hw)) (wsU_in fl_X8_32) rfl ?_
  refine AR.iload_n (pc := 4) (j := 1) dX8_dry_4 rfl rfl ?_
  refine AR.iload_n (pc := 5) (j := 2) dX8_dry_5 rfl rfl ?_
  obtain ⟨r1, h1, h⟩ := bd_some h
  refine AR.callVN (pc := 6) (As := [.int x1, .int x2]) (st := []) (ci := 4) dX8_dry_6 ⟨cd_X4_hasWord, im_X4_hasWord, se_X4_hasWord, ini_X4⟩ mn_X8_147 (A4_hasWord x1 x2 σ _ h1) ⟨rfl, pd_X4_hasWord⟩ ⟨Nat.le_of_ble_eq_true rfl, Nat.le_of_ble_eq_true rfl⟩ ⟨rfl, rfl⟩ rfl rfl rfl (Nat.le_of_ble_eq_true rfl) ?_
  refine AR.if_ne (pc := 9) (tgt := 14) dX8_dry_9 (by decide) (fun c2 => ?_) (fun c2 => ?_)
  · replace h := ite_f c2 h
    refine AR.aload_n (pc := 14) (j := 0) dX8_dry_14 rfl rfl ?_
    obtain ⟨r3, h3, h⟩ := bd_some h
    refine AR.callV (pc := 15) (As := []) (st := []) (ci := 8) dX8_dry_15 ⟨cd_X8_planAhead, im_X8_planAhead, se_X8_planAhead, ini_X8⟩ ml_X8_216 (A8_planAhead (r1.2) _ h3) ⟨rfl, pd_X8_planAhead⟩ ⟨Nat.le_of_ble_eq_true rfl, Nat.le_of_ble_eq_true rfl⟩ ⟨rfl, rfl⟩ rfl rfl rfl (Nat.le_of_ble_eq_true rfl) ?_
    refine AR.iconst (pc := 18) (v := 0) dX8_dry_18 (by decide) ?_
    refine AR.istore_n (pc := 19) (L2 := [(3, .int 0), (0, .ref 0), (1, .int x1), (2, .int x2)]) dX8_dry_19 rfl (by decide) rfl ?_
    refine AR.iconst (pc := 20) (v := 0) dX8_dry_20 (by decide) ?_
    refine AR.istore (pc := 21) (L2 := [(4, .int 0), (3, .int 0), (0, .ref 0), (1, .int x1), (2, .int x2)]) dX8_dry_21 (by decide) rfl ?_
    exact AR.pick [2, 3, 4, 1, 0] rfl (A8_dry_23 x1 x2 (0, 0, r3) r h)
  · replace h := ite_t c2 h
    refine AR.iconst (pc := 12) (v := (-1)) dX8_dry_12 (by decide) ?_
    exact AR.iret (pc := 13) rfl dX8_dry_13 (hrI (Option.some.inj h))
set_option maxHeartbeats 4000000 in
set_option maxRecDepth 100000 in
theorem A8_day_81 {l : Launch} (σ : HS) (r : Int32 × HS) (h : f8_day_81 σ = some r) : AR l RX8 cX8_day 8 (some .int) (wsU yX8_day cX8_day 8 (some .int)) rm8_day SC 81 [(0, .ref 0)] [] σ (some (.int r.1), r.2) := by
  unfold f8_day_81 at h
  refine AR.aload_n (pc := 81) (j := 0) dX8_day_81 rfl rfl ?_
  refine AR.bipush (pc := 82) (v := (-2)) dX8_day_82 (by decide) ?_
  obtain ⟨r1, h1, h⟩ := bd_some h
  refine AR.callV (pc := 84) (As := [.int (-2)]) (st := []) (ci := 8) dX8_day_84 ⟨cd_X8_told, im_X8_told, se_X8_told, ini_X8⟩ ml_X8_109 (A8_told (-2) σ _ h1) ⟨rfl, pd_X8_told⟩ ⟨Nat.le_of_ble_eq_true rfl, Nat.le_of_ble_eq_true rfl⟩ ⟨rfl, rfl⟩ rfl rfl rfl (Nat.le_of_ble_eq_true rfl) ?_
  exact AR.iret (pc := 87) rfl dX8_day_87 (hrI (Option.some.inj h))
set_option maxHeartbeats 4000000 in
set_option maxRecDepth 100000 in
theorem A8_day_151 {l : Launch} (x4 : Int32) (σ : HS) (r : Int32 × HS) (h : f8_day_151 x4 σ = some r) : AR l RX8 cX8_day 8 (some .int) (wsU yX8_day cX8_day 8 (some .int)) rm8_day SC 151 [(0, .ref 0), (4, .int x4)] [] σ (some (.int r.1), r.2) := by
  unfold f8_day_151 at h
  refine AR.aload_n (pc := 151) (j := 0) dX8_day_151 rfl rfl ?_
  refine AR.aload_n (pc := 152) (j := 0) dX8_day_152 rfl rfl ?_
  refine AR.getf (pc := 153) (ci := 8) (j := 9) (d := 40 + 2) (v := .ref 40) (T := TX8) dX8_day_153 rfl rfl rfl (by decide) (fun w hw => wsU_in (uw_X8 w hw)) (wsU_in fl_X8_88) rfl ?_
  refine AR.iload (pc := 156) (j := 1) dX8_day_156 rfl ?_
  obtain ⟨r1, h1, h⟩ := bd_some h
  refine AR.callVN (pc := 158) (As := [.int x4]) (st := [.ref 0]) (ci := 2) dX8_day_158 ⟨cd_X2_close, im_X2_close, se_X2_close, ini_X2⟩ mn_X8_278 (A2_close x4 σ _ h1) ⟨rfl, pd_X2_close⟩ ⟨Nat.le_of_ble_eq_true rfl, Nat.le_of_ble_eq_true rfl⟩ ⟨rfl, rfl⟩ rfl rfl rfl (Nat.le_of_ble_eq_true rfl) ?_
  obtain ⟨r2, h2, h⟩ := bd_some h
  refine AR.callV (pc := 161) (As := [.int (r1.1)]) (st := []) (ci := 8) dX8_day_161 ⟨cd_X8_told, im_X8_told, se_X8_told, ini_X8⟩ ml_X8_109 (A8_told (r1.1) (r1.2) _ h2) ⟨rfl, pd_X8_told⟩ ⟨Nat.le_of_ble_eq_true rfl, Nat.le_of_ble_eq_true rfl⟩ ⟨rfl, rfl⟩ rfl rfl rfl (Nat.le_of_ble_eq_true rfl) ?_
  exact AR.iret (pc := 164) rfl dX8_day_164 (hrI (Option.some.inj h))
set_option maxHeartbeats 4000000 in
set_option maxRecDepth 100000 in
theorem A8_day_110_b {l : Launch} (k110 : Int32 × HS → Option (Int32 × HS)) (x1 : Int32) (x3 : Int32) (x4 : Int32) (x5 : Int32) (x7 : Int32) (hk110 : ∀ (p : Int32 × HS) (r : Int32 × HS), k110 p = some r → AR l RX8 cX8_day 8 (some .int) (wsU yX8_day cX8_day 8 (some .int)) rm8_day SC 110 [(0, .ref 0), (1, .int x1), (3, .int x3), (4, .int x4), (5, .int x5), (7, .int (p.1))] [] p.2 (some (.int r.1), r.2)) (σ : HS) (r : Int32 × HS) (h : f8_day_110_b k110 x1 x3 x4 x5 x7 σ = some r) : AR l RX8 cX8_day 8 (some .int) (wsU yX8_day cX8_day 8 (some .int)) rm8_day SC 110 [(0, .ref 0), (1, .int x1), (3, .int x3), (4, .int x4), (5, .int x5), (7, .int x7)] [] σ (some (.int r.1), r.2) := by
  unfold f8_day_110_b at h
  refine AR.iload (pc := 110) (j := 5) dX8_day_110 rfl ?_
  refine AR.iload (pc := 112) (j := 4) dX8_day_112 rfl ?_
  refine AR.icmp_ge (pc := 114) (tgt := 151) dX8_day_114 (by decide) (fun c1 => ?_) (fun c1 => ?_)
  · replace h := ite_t c1 h
    exact AR.pick [0, 3] rfl (A8_day_151 x4 σ r h)
  · replace h := ite_f c1 h
    refine AR.iload (pc := 117) (j := 5) dX8_day_117 rfl ?_
    refine AR.bipush (pc := 119) (v := 6) dX8_day_119 (by decide) ?_
    refine AR.icmp_ge (pc := 121) (tgt := 151) dX8_day_121 (by decide) (fun c2 => ?_) (fun c2 => ?_)
    · replace h := ite_t c2 h
      exact AR.pick [0, 3] rfl (A8_day_151 x4 σ r h)
    · replace h := ite_f c2 h
      refine AR.aload_n (pc := 124) (j := 0) dX8_day_124 rfl rfl ?_
      refine AR.getf (pc := 125) (ci := 8) (j := 9) (d := 40 + 2) (v := .ref 40) (T := TX8) dX8_day_125 rfl rfl rfl (by decide) (fun w hw => wsU_in (uw_X8 w hw)) (wsU_in fl_X8_88) rfl ?_
      refine AR.iload (pc := 128) (j := 5) dX8_day_128 rfl ?_
      refine AR.aload_n (pc := 130) (j := 0) dX8_day_130 rfl rfl ?_
      refine AR.getf (pc := 131) (ci := 8) (j := 0) (d := 1 + 2) (v := .ref 1) (T := TX8) dX8_day_131 rfl rfl rfl (by decide) (fun w hw => wsU_in (uw_X8 w hw)) (wsU_in fl_X8_25) rfl ?_
      refine AR.iload_n (pc := 134) (j := 1) dX8_day_134 rfl rfl ?_
      refine AR.iload_n (pc := 135) (j := 2) dX8_day_135 rfl rfl ?_
      refine AR.iload (pc := 136) (j := 5) dX8_day_136 rfl ?_
      refine AR.iadd (pc := 138) dX8_day_138 ?_
      obtain ⟨r3, h3, h⟩ := bd_some h
      refine AR.callVN (pc := 139) (As := [.int x1, .int (x3 + x7)]) (st := [.int x7, .ref 40]) (ci := 7) dX8_day_139 ⟨cd_X7_valueAt, im_X7_valueAt, se_X7_valueAt, ini_X7⟩ mn_X8_200 (A7_valueAt x1 (x3 + x7) σ _ h3) ⟨rfl, pd_X7_valueAt⟩ ⟨Nat.le_of_ble_eq_true rfl, Nat.le_of_ble_eq_true rfl⟩ ⟨rfl, rfl⟩ rfl rfl rfl (Nat.le_of_ble_eq_true rfl) ?_
      obtain ⟨r4, h4, h⟩ := bd_some h
      refine AR.callVN (pc := 142) (As := [.int x7, .int (r3.1)]) (st := []) (ci := 2) dX8_day_142 ⟨cd_X2_note, im_X2_note, se_X2_note, ini_X2⟩ mn_X8_275 (A2_note x7 (r3.1) (r3.2) _ h4) ⟨rfl, pd_X2_note⟩ ⟨Nat.le_of_ble_eq_true rfl, Nat.le_of_ble_eq_true rfl⟩ ⟨rfl, rfl⟩ rfl rfl rfl (Nat.le_of_ble_eq_true rfl) ?_
      refine AR.iinc (pc := 145) (j := 5) (v := (x7 + 1)) (L2 := [(7, .int (x7 + 1)), (0, .ref 0), (1, .int x1), (3, .int x3), (4, .int x4), (5, .int x5)]) dX8_day_145 rfl rfl (by decide) rfl ?_
      refine AR.goto (pc := 148) (tgt := 110) dX8_day_148 (by decide) ?_
      exact AR.pick [1, 2, 3, 4, 5, 0] rfl (hk110 ((x7 + 1), r4) r h)
theorem A8_day_110 {l : Launch} (x1 : Int32) (x3 : Int32) (x4 : Int32) (x5 : Int32) (p : Int32 × HS) (r : Int32 × HS) (h : f8_day_110 x1 x3 x4 x5 p = some r) : AR l RX8 cX8_day 8 (some .int) (wsU yX8_day cX8_day 8 (some .int)) rm8_day SC 110 [(0, .ref 0), (1, .int x1), (3, .int x3), (4, .int x4), (5, .int x5), (7, .int (p.1))] [] p.2 (some (.int r.1), r.2) := by
  unfold f8_day_110 at h
  exact wloop_run (body := fun k110 p => f8_day_110_b k110 x1 x3 x4 x5 p.1 p.2) (Q := fun p r => AR l RX8 cX8_day 8 (some .int) (wsU yX8_day cX8_day 8 (some .int)) rm8_day SC 110 [(0, .ref 0), (1, .int x1), (3, .int x3), (4, .int x4), (5, .int x5), (7, .int (p.1))] [] p.2 (some (.int r.1), r.2)) (fun k110 hk110 p r h => A8_day_110_b k110 x1 x3 x4 x5 p.1 hk110 p.2 r h) fuelN p r h
set_option maxHeartbeats 4000000 in
set_option maxRecDepth 100000 in
theorem A8_day {l : Launch} (x1 : Int32) (x2 : Int32) (x3 : Int32) (x4 : Int32) (σ : HS) (r : Int32 × HS) (h : f8_day x1 x2 x3 x4 σ = some r) : MA l yX8_day (wsU yX8_day cX8_day 8 (some .int)) rm8_day SC [.ref 0, .int x1, .int x2, .int x3, .int x4] σ (some (.int r.1), r.2) := by
  refine MA.of (L := [(0, .ref 0), (1, .int x1), (2, .int x2), (3, .int x3), (4, .int x4)]) pn_X8_day rfl (fun _ => Nat.le_of_ble_eq_true rfl) (fun _ => rfl) ?_
  unfold f8_day at h
  refine AR.aload_n (pc := 0) (j := 0) dX8_day_0 rfl rfl ?_
  refine AR.getf (pc := 1) (ci := 8) (j := 3) (d := 20 + 2) (v := .ref 20) (T := TX8) dX8_day_1 rfl rfl rfl (by decide) (fun w hw => wsU_in (uw_X8 w hw)) (wsU_in fl_X8_54) rfl ?_
  obtain ⟨r1, h1, h⟩ := bd_some h
  refine AR.callVN (pc := 4) (As := []) (st := []) (ci := 0) dX8_day_4 ⟨cd_X0_turns, im_X0_turns, se_X0_turns, ini_X0⟩ mn_X8_189 (A0_turns 20 grp20 σ _ h1) ⟨rfl, pd_X0_turns⟩ ⟨Nat.le_of_ble_eq_true rfl, Nat.le_of_ble_eq_true rfl⟩ ⟨rfl, rfl⟩ rfl rfl rfl (Nat.le_of_ble_eq_true rfl) ?_
  refine AR.istore (pc := 7) (L2 := [(5, .int (r1.1)), (0, .ref 0), (1, .int x1), (2, .int x2), (3, .int x3), (4, .int x4)]) dX8_day_7 (by decide) rfl ?_
  refine AR.aload_n (pc := 9) (j := 1) dX8_day_9 rfl rfl ?_
  refine AR.getf (pc := 10) (ci := 8) (j := 0) (d := 1 + 2) (v := .ref 1) (T := TX8) dX8_day_10 rfl rfl rfl (by decide) (fun w hw => wsU_in (uw_X8 w hw)) (wsU_in fl_X8_25) rfl ?_
  refine AR.iload_n (pc := 13) (j := 2) dX8_day_13 rfl rfl ?_
  refine AR.iload_n (pc := 14) (j := 3) dX8_day_14 rfl rfl ?_
  refine AR.iload_n (pc := 15) (j := 4) dX8_day_15 rfl rfl ?_
  refine AR.iload (pc := 16) (j := 0) dX8_day_16 rfl ?_
  obtain ⟨r2, h2, h⟩ := bd_some h
  refine AR.callVN (pc := 18) (As := [.int x1, .int x2, .int x3, .int (r1.1)]) (st := []) (ci := 7) dX8_day_18 ⟨cd_X7_partRefusal, im_X7_partRefusal, se_X7_partRefusal, ini_X7⟩ mn_X8_105 (A7_partRefusal x1 x2 x3 (r1.1) (r1.2) _ h2) ⟨rfl, pd_X7_partRefusal⟩ ⟨Nat.le_of_ble_eq_true rfl, Nat.le_of_ble_eq_true rfl⟩ ⟨rfl, rfl⟩ rfl rfl rfl (Nat.le_of_ble_eq_true rfl) ?_
  refine AR.istore (pc := 21) (L2 := [(6, .int (r2.1)), (5, .int (r1.1)), (0, .ref 0), (1, .int x1), (2, .int x2), (3, .int x3), (4, .int x4)]) dX8_day_21 (by decide) rfl ?_
  refine AR.iload (pc := 23) (j := 0) dX8_day_23 rfl ?_
  refine AR.if_eq (pc := 25) (tgt := 35) dX8_day_25 (by decide) (fun c3 => ?_) (fun c3 => ?_)
  · replace h := ite_t c3 h
    refine AR.aload_n (pc := 35) (j := 2) dX8_day_35 rfl rfl ?_
    refine AR.getf (pc := 36) (ci := 8) (j := 1) (d := 5 + 2) (v := .ref 5) (T := TX8) dX8_day_36 rfl rfl rfl (by decide) (fun w hw => wsU_in (uw_X8 w hw)) (wsU_in fl_X8_32) rfl ?_
    refine AR.getfN (pc := 39) (ci := 4) (j := 0) (d := 0) (v := .int ((r2.2).1 5 0)) (T := TX4) dX8_day_39 rfl rfl rfl (by decide) (fun w hw => wsU_in (uw_X4 w hw)) fn_X8_132 rfl ?_
    refine AR.if_ne (pc := 42) (tgt := 52) dX8_day_42 (by decide) (fun c4 => ?_) (fun c4 => ?_)
    · replace h := ite_f c4 h
      refine AR.aload_n (pc := 52) (j := 2) dX8_day_52 rfl rfl ?_
      refine AR.iload_n (pc := 53) (j := 3) dX8_day_53 rfl rfl ?_
      refine AR.iload_n (pc := 54) (j := 5) dX8_day_54 rfl rfl ?_
      refine AR.iload (pc := 55) (j := 1) dX8_day_55 rfl ?_
      obtain ⟨r5, h5, h⟩ := bd_some h
      refine AR.callV (pc := 57) (As := [.int x1, .int x3, .int (r1.1)]) (st := []) (ci := 8) dX8_day_57 ⟨cd_X8_areWords, im_X8_areWords, se_X8_areWords, ini_X8⟩ ml_X8_193 (A8_areWords x1 x3 (r1.1) (r2.2) _ h5) ⟨rfl, pd_X8_areWords⟩ ⟨Nat.le_of_ble_eq_true rfl, Nat.le_of_ble_eq_true rfl⟩ ⟨rfl, rfl⟩ rfl rfl rfl (Nat.le_of_ble_eq_true rfl) ?_
      refine AR.if_ne (pc := 60) (tgt := 69) dX8_day_60 (by decide) (fun c6 => ?_) (fun c6 => ?_)
      · replace h := ite_f c6 h
        refine AR.iload (pc := 69) (j := 6) dX8_day_69 rfl ?_
        refine AR.if_lt (pc := 71) (tgt := 81) dX8_day_71 (by decide) (fun c7 => ?_) (fun c7 => ?_)
        · replace h := ite_t c7 h
          exact AR.pick [2] rfl (A8_day_81 (r5.2) r h)
        · replace h := ite_f c7 h
          refine AR.iload (pc := 74) (j := 6) dX8_day_74 rfl ?_
          refine AR.bipush (pc := 76) (v := 99) dX8_day_76 (by decide) ?_
          refine AR.icmp_le (pc := 78) (tgt := 88) dX8_day_78 (by decide) (fun c8 => ?_) (fun c8 => ?_)
          · replace h := ite_t c8 h
            refine AR.aload_n (pc := 88) (j := 2) dX8_day_88 rfl rfl ?_
            refine AR.getf (pc := 89) (ci := 8) (j := 9) (d := 40 + 2) (v := .ref 40) (T := TX8) dX8_day_89 rfl rfl rfl (by decide) (fun w hw => wsU_in (uw_X8 w hw)) (wsU_in fl_X8_88) rfl ?_
            refine AR.getfN (pc := 92) (ci := 2) (j := 3) (d := 0) (v := .int ((r5.2).1 40 3)) (T := TX2) dX8_day_92 rfl rfl rfl (by decide) (fun w hw => wsU_in (uw_X2 w hw)) fn_X8_274 rfl ?_
            refine AR.bipush (pc := 95) (v := 6) dX8_day_95 (by decide) ?_
            refine AR.icmp_lt (pc := 97) (tgt := 107) dX8_day_97 (by decide) (fun c9 => ?_) (fun c9 => ?_)
            · replace h := ite_t c9 h
              refine AR.iconst (pc := 107) (v := 0) dX8_day_107 (by decide) ?_
              refine AR.istore (pc := 108) (L2 := [(7, .int 0), (6, .int (r2.1)), (5, .int (r1.1)), (0, .ref 0), (1, .int x1), (2, .int x2), (3, .int x3), (4, .int x4)]) dX8_day_108 (by decide) rfl ?_
              exact AR.pick [3, 4, 6, 7, 2, 0] rfl (A8_day_110 x1 x3 x4 (r1.1) (0, r5.2) r h)
            · replace h := ite_f c9 h
              refine AR.aload_n (pc := 100) (j := 2) dX8_day_100 rfl rfl ?_
              refine AR.bipush (pc := 101) (v := (-4)) dX8_day_101 (by decide) ?_
              obtain ⟨r10, h10, h⟩ := bd_some h
              refine AR.callV (pc := 103) (As := [.int (-4)]) (st := []) (ci := 8) dX8_day_103 ⟨cd_X8_told, im_X8_told, se_X8_told, ini_X8⟩ ml_X8_109 (A8_told (-4) (r5.2) _ h10) ⟨rfl, pd_X8_told⟩ ⟨Nat.le_of_ble_eq_true rfl, Nat.le_of_ble_eq_true rfl⟩ ⟨rfl, rfl⟩ rfl rfl rfl (Nat.le_of_ble_eq_true rfl) ?_
              exact AR.iret (pc := 106) rfl dX8_day_106 (hrI (Option.some.inj h))
          · replace h := ite_f c8 h
            exact AR.pick [2] rfl (A8_day_81 (r5.2) r h)
      · replace h := ite_t c6 h
        refine AR.aload_n (pc := 63) (j := 2) dX8_day_63 rfl rfl ?_
        refine AR.iconst (pc := 64) (v := (-1)) dX8_day_64 (by decide) ?_
        obtain ⟨r11, h11, h⟩ := bd_some h
        refine AR.callV (pc := 65) (As := [.int (-1)]) (st := []) (ci := 8) dX8_day_65 ⟨cd_X8_told, im_X8_told, se_X8_told, ini_X8⟩ ml_X8_109 (A8_told (-1) (r5.2) _ h11) ⟨rfl, pd_X8_told⟩ ⟨Nat.le_of_ble_eq_true rfl, Nat.le_of_ble_eq_true rfl⟩ ⟨rfl, rfl⟩ rfl rfl rfl (Nat.le_of_ble_eq_true rfl) ?_
        exact AR.iret (pc := 68) rfl dX8_day_68 (hrI (Option.some.inj h))
    · replace h := ite_t c4 h
      refine AR.aload_n (pc := 45) (j := 2) dX8_day_45 rfl rfl ?_
      refine AR.bipush (pc := 46) (v := (-3)) dX8_day_46 (by decide) ?_
      obtain ⟨r12, h12, h⟩ := bd_some h
      refine AR.callV (pc := 48) (As := [.int (-3)]) (st := []) (ci := 8) dX8_day_48 ⟨cd_X8_told, im_X8_told, se_X8_told, ini_X8⟩ ml_X8_109 (A8_told (-3) (r2.2) _ h12) ⟨rfl, pd_X8_told⟩ ⟨Nat.le_of_ble_eq_true rfl, Nat.le_of_ble_eq_true rfl⟩ ⟨rfl, rfl⟩ rfl rfl rfl (Nat.le_of_ble_eq_true rfl) ?_
      exact AR.iret (pc := 51) rfl dX8_day_51 (hrI (Option.some.inj h))
  · replace h := ite_f c3 h
    refine AR.aload_n (pc := 28) (j := 2) dX8_day_28 rfl rfl ?_
    refine AR.iload (pc := 29) (j := 0) dX8_day_29 rfl ?_
    obtain ⟨r13, h13, h⟩ := bd_some h
    refine AR.callV (pc := 31) (As := [.int (r2.1)]) (st := []) (ci := 8) dX8_day_31 ⟨cd_X8_told, im_X8_told, se_X8_told, ini_X8⟩ ml_X8_109 (A8_told (r2.1) (r2.2) _ h13) ⟨rfl, pd_X8_told⟩ ⟨Nat.le_of_ble_eq_true rfl, Nat.le_of_ble_eq_true rfl⟩ ⟨rfl, rfl⟩ rfl rfl rfl (Nat.le_of_ble_eq_true rfl) ?_
    exact AR.iret (pc := 34) rfl dX8_day_34 (hrI (Option.some.inj h))
set_option maxHeartbeats 4000000 in
set_option maxRecDepth 100000 in
theorem A8_back {l : Launch} (x1 : Int32) (σ : HS) (r : Int32 × HS) (h : f8_back x1 σ = some r) : MA l yX8_back (wsU yX8_back cX8_back 2 (some .int)) rm8_back SC [.ref 0, .int x1] σ (some (.int r.1), r.2) := by
  refine MA.of (L := [(0, .ref 0), (1, .int x1)]) pn_X8_back rfl (fun _ => Nat.le_of_ble_eq_true rfl) (fun _ => rfl) ?_
  unfold f8_back at h
  refine AR.iload_n (pc := 0) (j := 1) dX8_back_0 rfl rfl ?_
  refine AR.if_lt (pc := 1) (tgt := 15) dX8_back_1 (by decide) (fun c1 => ?_) (fun c1 => ?_)
  · replace h := ite_t c1 h
    refine AR.bipush (pc := 15) (v := (-2)) dX8_back_15 (by decide) ?_
    exact AR.iret (pc := 17) rfl dX8_back_17 (hrI (Option.some.inj h))
  · replace h := ite_f c1 h
    refine AR.iload_n (pc := 4) (j := 1) dX8_back_4 rfl rfl ?_
    refine AR.aload_n (pc := 5) (j := 0) dX8_back_5 rfl rfl ?_
    refine AR.getf (pc := 6) (ci := 8) (j := 9) (d := 40 + 2) (v := .ref 40) (T := TX8) dX8_back_6 rfl rfl rfl (by decide) (fun w hw => wsU_in (uw_X8 w hw)) (wsU_in fl_X8_88) rfl ?_
    refine AR.getfN (pc := 9) (ci := 2) (j := 3) (d := 0) (v := .int (σ.1 40 3)) (T := TX2) dX8_back_9 rfl rfl rfl (by decide) (fun w hw => wsU_in (uw_X2 w hw)) fn_X8_274 rfl ?_
    refine AR.icmp_le (pc := 12) (tgt := 18) dX8_back_12 (by decide) (fun c2 => ?_) (fun c2 => ?_)
    · replace h := ite_t c2 h
      refine AR.aload_n (pc := 18) (j := 0) dX8_back_18 rfl rfl ?_
      refine AR.getf (pc := 19) (ci := 8) (j := 9) (d := 40 + 2) (v := .ref 40) (T := TX8) dX8_back_19 rfl rfl rfl (by decide) (fun w hw => wsU_in (uw_X8 w hw)) (wsU_in fl_X8_88) rfl ?_
      refine AR.dup (pc := 22) dX8_back_22 rfl ?_
      refine AR.getfN (pc := 23) (ci := 2) (j := 3) (d := 0) (v := .int (σ.1 40 3)) (T := TX2) dX8_back_23 rfl rfl rfl (by decide) (fun w hw => wsU_in (uw_X2 w hw)) fn_X8_274 rfl ?_
      refine AR.iload_n (pc := 26) (j := 1) dX8_back_26 rfl rfl ?_
      refine AR.isub (pc := 27) dX8_back_27 ?_
      refine AR.putIN (pc := 28) (ci := 2) (j := 3) (T := TX2) (ty0 := tyX2) (ty := .int) dX8_back_28 rfl rfl rfl (by decide) (fun w hw => wsU_in (uw_X2 w hw)) tyX2_ok nmX2 fn_X8_274 rfl (by decide +kernel) rfl rfl ?_
      refine AR.aload_n (pc := 31) (j := 0) dX8_back_31 rfl rfl ?_
      refine AR.getf (pc := 32) (ci := 8) (j := 9) (d := 40 + 2) (v := .ref 40) (T := TX8) dX8_back_32 rfl rfl rfl (by decide) (fun w hw => wsU_in (uw_X8 w hw)) (wsU_in fl_X8_88) rfl ?_
      refine AR.getfN (pc := 35) (ci := 2) (j := 3) (d := 0) (v := .int ((uI σ 40 3 ((σ.1 40 3) - x1)).1 40 3)) (T := TX2) dX8_back_35 rfl rfl rfl (by decide) (fun w hw => wsU_in (uw_X2 w hw)) fn_X8_274 rfl ?_
      exact AR.iret (pc := 38) rfl dX8_back_38 (hrI (Option.some.inj h))
    · replace h := ite_f c2 h
      refine AR.bipush (pc := 15) (v := (-2)) dX8_back_15 (by decide) ?_
      exact AR.iret (pc := 17) rfl dX8_back_17 (hrI (Option.some.inj h))
set_option maxHeartbeats 4000000 in
set_option maxRecDepth 100000 in
theorem A8_guess_136 {l : Launch} (x1 : Int32) (x2 : Int32) (x3 : Int32) (σ : HS) (r : Int32 × HS) (h : f8_guess_136 x1 x2 x3 σ = some r) : AR l RX8 cX8_guess 6 (some .int) (wsU yX8_guess cX8_guess 6 (some .int)) rm8_guess SC 136 [(1, .int x1), (2, .int x2), (3, .int x3)] [] σ (some (.int r.1), r.2) := by
  unfold f8_guess_136 at h
  refine AR.iload_n (pc := 136) (j := 0) dX8_guess_136 rfl rfl ?_
  refine AR.if_ne (pc := 137) (tgt := 144) dX8_guess_137 (by decide) (fun c1 => ?_) (fun c1 => ?_)
  · replace h := ite_f c1 h
    refine AR.iload_n (pc := 144) (j := 2) dX8_guess_144 rfl rfl ?_
    exact AR.iret (pc := 145) rfl dX8_guess_145 (hrI (Option.some.inj h))
  · replace h := ite_t c1 h
    refine AR.iload_n (pc := 140) (j := 1) dX8_guess_140 rfl rfl ?_
    refine AR.goto (pc := 141) (tgt := 145) dX8_guess_141 (by decide) ?_
    exact AR.iret (pc := 145) rfl dX8_guess_145 (hrI (Option.some.inj h))
set_option maxHeartbeats 4000000 in
set_option maxRecDepth 100000 in
theorem A8_guess_124 {l : Launch} (k59 : Int32 × Int32 × Int32 × HS → Option (Int32 × HS)) (k81 : Int32 × Int32 × Int32 × HS → Option (Int32 × HS)) (x1 : Int32) (x2 : Int32) (x3 : Int32) (x4 : Int32) (x5 : Int32) (hk59 : ∀ (p : Int32 × Int32 × Int32 × HS) (r : Int32 × HS), k59 p = some r → AR l RX8 cX8_guess 6 (some .int) (wsU yX8_guess cX8_guess 6 (some .int)) rm8_guess SC 59 [(0, .ref 0), (1, .int x1), (2, .int (p.1)), (3, .int (p.2.1)), (4, .int (p.2.2.1))] [] p.2.2.2 (some (.int r.1), r.2)) (hk81 : ∀ (p : Int32 × Int32 × Int32 × HS) (r : Int32 × HS), k81 p = some r → AR l RX8 cX8_guess 6 (some .int) (wsU yX8_guess cX8_guess 6 (some .int)) rm8_guess SC 81 [(0, .ref 0), (1, .int x1), (2, .int (p.1)), (3, .int (p.2.1)), (4, .int x4), (5, .int (p.2.2.1))] [] p.2.2.2 (some (.int r.1), r.2)) (σ : HS) (r : Int32 × HS) (h : f8_guess_124 k59 k81 x1 x2 x3 x4 x5 σ = some r) : AR l RX8 cX8_guess 6 (some .int) (wsU yX8_guess cX8_guess 6 (some .int)) rm8_guess SC 124 [(0, .ref 0), (1, .int x1), (2, .int x2), (3, .int x3), (4, .int x4), (5, .int x5)] [] σ (some (.int r.1), r.2) := by
  unfold f8_guess_124 at h
  refine AR.iinc (pc := 124) (j := 5) (v := (x5 + 1)) (L2 := [(5, .int (x5 + 1)), (0, .ref 0), (1, .int x1), (2, .int x2), (3, .int x3), (4, .int x4)]) dX8_guess_124 rfl rfl (by decide) rfl ?_
  refine AR.goto (pc := 127) (tgt := 81) dX8_guess_127 (by decide) ?_
  exact AR.pick [1, 2, 3, 4, 5, 0] rfl (hk81 (x2, x3, (x5 + 1), σ) r h)
set_option maxHeartbeats 4000000 in
set_option maxRecDepth 100000 in
theorem A8_guess_123 {l : Launch} (k59 : Int32 × Int32 × Int32 × HS → Option (Int32 × HS)) (k81 : Int32 × Int32 × Int32 × HS → Option (Int32 × HS)) (x1 : Int32) (x2 : Int32) (x4 : Int32) (x5 : Int32) (z0 : Int32) (hk59 : ∀ (p : Int32 × Int32 × Int32 × HS) (r : Int32 × HS), k59 p = some r → AR l RX8 cX8_guess 6 (some .int) (wsU yX8_guess cX8_guess 6 (some .int)) rm8_guess SC 59 [(0, .ref 0), (1, .int x1), (2, .int (p.1)), (3, .int (p.2.1)), (4, .int (p.2.2.1))] [] p.2.2.2 (some (.int r.1), r.2)) (hk81 : ∀ (p : Int32 × Int32 × Int32 × HS) (r : Int32 × HS), k81 p = some r → AR l RX8 cX8_guess 6 (some .int) (wsU yX8_guess cX8_guess 6 (some .int)) rm8_guess SC 81 [(0, .ref 0), (1, .int x1), (2, .int (p.1)), (3, .int (p.2.1)), (4, .int x4), (5, .int (p.2.2.1))] [] p.2.2.2 (some (.int r.1), r.2)) (σ : HS) (r : Int32 × HS) (h : f8_guess_123 k59 k81 x1 x2 x4 x5 z0 σ = some r) : AR l RX8 cX8_guess 6 (some .int) (wsU yX8_guess cX8_guess 6 (some .int)) rm8_guess SC 123 [(0, .ref 0), (1, .int x1), (2, .int x2), (4, .int x4), (5, .int x5)] [.int z0] σ (some (.int r.1), r.2) := by
  unfold f8_guess_123 at h
  refine AR.istore_n (pc := 123) (L2 := [(3, .int z0), (0, .ref 0), (1, .int x1), (2, .int x2), (4, .int x4), (5, .int x5)]) dX8_guess_123 rfl (by decide) rfl ?_
  exact AR.pick [1, 2, 3, 0, 4, 5] rfl (A8_guess_124 k59 k81 x1 x2 z0 x4 x5 hk59 hk81 σ r h)
set_option maxHeartbeats 4000000 in
set_option maxRecDepth 100000 in
theorem A8_guess_81_b {l : Launch} (k59 : Int32 × Int32 × Int32 × HS → Option (Int32 × HS)) (k81 : Int32 × Int32 × Int32 × HS → Option (Int32 × HS)) (x1 : Int32) (x2 : Int32) (x3 : Int32) (x4 : Int32) (x5 : Int32) (hk59 : ∀ (p : Int32 × Int32 × Int32 × HS) (r : Int32 × HS), k59 p = some r → AR l RX8 cX8_guess 6 (some .int) (wsU yX8_guess cX8_guess 6 (some .int)) rm8_guess SC 59 [(0, .ref 0), (1, .int x1), (2, .int (p.1)), (3, .int (p.2.1)), (4, .int (p.2.2.1))] [] p.2.2.2 (some (.int r.1), r.2)) (hk81 : ∀ (p : Int32 × Int32 × Int32 × HS) (r : Int32 × HS), k81 p = some r → AR l RX8 cX8_guess 6 (some .int) (wsU yX8_guess cX8_guess 6 (some .int)) rm8_guess SC 81 [(0, .ref 0), (1, .int x1), (2, .int (p.1)), (3, .int (p.2.1)), (4, .int x4), (5, .int (p.2.2.1))] [] p.2.2.2 (some (.int r.1), r.2)) (σ : HS) (r : Int32 × HS) (h : f8_guess_81_b k59 k81 x1 x2 x3 x4 x5 σ = some r) : AR l RX8 cX8_guess 6 (some .int) (wsU yX8_guess cX8_guess 6 (some .int)) rm8_guess SC 81 [(0, .ref 0), (1, .int x1), (2, .int x2), (3, .int x3), (4, .int x4), (5, .int x5)] [] σ (some (.int r.1), r.2) := by
  unfold f8_guess_81_b at h
  refine AR.iload (pc := 81) (j := 5) dX8_guess_81 rfl ?_
  refine AR.bipush (pc := 83) (v := 9) dX8_guess_83 (by decide) ?_
  refine AR.icmp_gt (pc := 85) (tgt := 130) dX8_guess_85 (by decide) (fun c1 => ?_) (fun c1 => ?_)
  · replace h := ite_t c1 h
    refine AR.iinc (pc := 130) (j := 4) (v := (x4 + 1)) (L2 := [(4, .int (x4 + 1)), (0, .ref 0), (1, .int x1), (2, .int x2), (3, .int x3), (5, .int x5)]) dX8_guess_130 rfl rfl (by decide) rfl ?_
    refine AR.goto (pc := 133) (tgt := 59) dX8_guess_133 (by decide) ?_
    exact AR.pick [1, 2, 3, 4, 0] rfl (hk59 (x2, x3, (x4 + 1), σ) r h)
  · replace h := ite_f c1 h
    refine AR.aload_n (pc := 88) (j := 0) dX8_guess_88 rfl rfl ?_
    refine AR.getf (pc := 89) (ci := 8) (j := 9) (d := 40 + 2) (v := .ref 40) (T := TX8) dX8_guess_89 rfl rfl rfl (by decide) (fun w hw => wsU_in (uw_X8 w hw)) (wsU_in fl_X8_88) rfl ?_
    refine AR.iload (pc := 92) (j := 4) dX8_guess_92 rfl ?_
    refine AR.iload (pc := 94) (j := 5) dX8_guess_94 rfl ?_
    obtain ⟨r2, h2, h⟩ := bd_some h
    refine AR.callVN (pc := 96) (As := [.int x4, .int x5]) (st := []) (ci := 2) dX8_guess_96 ⟨cd_X2_fits, im_X2_fits, se_X2_fits, ini_X2⟩ mn_X8_284 (A2_fits x4 x5 σ _ h2) ⟨rfl, pd_X2_fits⟩ ⟨Nat.le_of_ble_eq_true rfl, Nat.le_of_ble_eq_true rfl⟩ ⟨rfl, rfl⟩ rfl rfl rfl (Nat.le_of_ble_eq_true rfl) ?_
    refine AR.if_eq (pc := 99) (tgt := 124) dX8_guess_99 (by decide) (fun c3 => ?_) (fun c3 => ?_)
    · replace h := ite_t c3 h
      exact AR.pick [0, 1, 2, 3, 4, 5] rfl (A8_guess_124 k59 k81 x1 x2 x3 x4 x5 hk59 hk81 (r2.2) r h)
    · replace h := ite_f c3 h
      refine AR.iinc (pc := 102) (j := 2) (v := (x2 + 1)) (L2 := [(2, .int (x2 + 1)), (0, .ref 0), (1, .int x1), (3, .int x3), (4, .int x4), (5, .int x5)]) dX8_guess_102 rfl rfl (by decide) rfl ?_
      refine AR.iload_n (pc := 105) (j := 3) dX8_guess_105 rfl rfl ?_
      refine AR.bipush (pc := 106) (v := (-9)) dX8_guess_106 (by decide) ?_
      refine AR.icmp_ne (pc := 108) (tgt := 122) dX8_guess_108 (by decide) (fun c4 => ?_) (fun c4 => ?_)
      · replace h := ite_f c4 h
        refine AR.iload_n (pc := 122) (j := 3) dX8_guess_122 rfl rfl ?_
        exact AR.pick [1, 2, 0, 4, 5] rfl (A8_guess_123 k59 k81 x1 (x2 + 1) x4 x5 x3 hk59 hk81 (r2.2) r h)
      · replace h := ite_t c4 h
        refine AR.bipush (pc := 111) (v := 10) dX8_guess_111 (by decide) ?_
        refine AR.iload (pc := 113) (j := 4) dX8_guess_113 rfl ?_
        refine AR.imul (pc := 115) dX8_guess_115 ?_
        refine AR.iload (pc := 116) (j := 5) dX8_guess_116 rfl ?_
        refine AR.iadd (pc := 118) dX8_guess_118 ?_
        refine AR.goto (pc := 119) (tgt := 123) dX8_guess_119 (by decide) ?_
        exact AR.pick [1, 2, 0, 4, 5] rfl (A8_guess_123 k59 k81 x1 (x2 + 1) x4 x5 ((10 * x4) + x5) hk59 hk81 (r2.2) r h)
theorem A8_guess_81 {l : Launch} (k59 : Int32 × Int32 × Int32 × HS → Option (Int32 × HS)) (x1 : Int32) (x4 : Int32) (hk59 : ∀ (p : Int32 × Int32 × Int32 × HS) (r : Int32 × HS), k59 p = some r → AR l RX8 cX8_guess 6 (some .int) (wsU yX8_guess cX8_guess 6 (some .int)) rm8_guess SC 59 [(0, .ref 0), (1, .int x1), (2, .int (p.1)), (3, .int (p.2.1)), (4, .int (p.2.2.1))] [] p.2.2.2 (some (.int r.1), r.2)) (p : Int32 × Int32 × Int32 × HS) (r : Int32 × HS) (h : f8_guess_81 k59 x1 x4 p = some r) : AR l RX8 cX8_guess 6 (some .int) (wsU yX8_guess cX8_guess 6 (some .int)) rm8_guess SC 81 [(0, .ref 0), (1, .int x1), (2, .int (p.1)), (3, .int (p.2.1)), (4, .int x4), (5, .int (p.2.2.1))] [] p.2.2.2 (some (.int r.1), r.2) := by
  unfold f8_guess_81 at h
  exact wloop_run (body := fun k81 p => f8_guess_81_b k59 k81 x1 p.1 p.2.1 x4 p.2.2.1 p.2.2.2) (Q := fun p r => AR l RX8 cX8_guess 6 (some .int) (wsU yX8_guess cX8_guess 6 (some .int)) rm8_guess SC 81 [(0, .ref 0), (1, .int x1), (2, .int (p.1)), (3, .int (p.2.1)), (4, .int x4), (5, .int (p.2.2.1))] [] p.2.2.2 (some (.int r.1), r.2)) (fun k81 hk81 p r h => A8_guess_81_b k59 k81 x1 p.1 p.2.1 x4 p.2.2.1 hk59 hk81 p.2.2.2 r h) fuelN p r h
set_option maxHeartbeats 4000000 in
set_option maxRecDepth 100000 in
theorem A8_guess_59_b {l : Launch} (k59 : Int32 × Int32 × Int32 × HS → Option (Int32 × HS)) (x1 : Int32) (x2 : Int32) (x3 : Int32) (x4 : Int32) (hk59 : ∀ (p : Int32 × Int32 × Int32 × HS) (r : Int32 × HS), k59 p = some r → AR l RX8 cX8_guess 6 (some .int) (wsU yX8_guess cX8_guess 6 (some .int)) rm8_guess SC 59 [(0, .ref 0), (1, .int x1), (2, .int (p.1)), (3, .int (p.2.1)), (4, .int (p.2.2.1))] [] p.2.2.2 (some (.int r.1), r.2)) (σ : HS) (r : Int32 × HS) (h : f8_guess_59_b k59 x1 x2 x3 x4 σ = some r) : AR l RX8 cX8_guess 6 (some .int) (wsU yX8_guess cX8_guess 6 (some .int)) rm8_guess SC 59 [(0, .ref 0), (1, .int x1), (2, .int x2), (3, .int x3), (4, .int x4)] [] σ (some (.int r.1), r.2) := by
  unfold f8_guess_59_b at h
  refine AR.iload (pc := 59) (j := 4) dX8_guess_59 rfl ?_
  refine AR.aload_n (pc := 61) (j := 0) dX8_guess_61 rfl rfl ?_
  refine AR.getf (pc := 62) (ci := 8) (j := 9) (d := 40 + 2) (v := .ref 40) (T := TX8) dX8_guess_62 rfl rfl rfl (by decide) (fun w hw => wsU_in (uw_X8 w hw)) (wsU_in fl_X8_88) rfl ?_
  refine AR.getfN (pc := 65) (ci := 2) (j := 3) (d := 0) (v := .int (σ.1 40 3)) (T := TX2) dX8_guess_65 rfl rfl rfl (by decide) (fun w hw => wsU_in (uw_X2 w hw)) fn_X8_274 rfl ?_
  refine AR.icmp_gt (pc := 68) (tgt := 136) dX8_guess_68 (by decide) (fun c1 => ?_) (fun c1 => ?_)
  · replace h := ite_t c1 h
    exact AR.pick [1, 2, 3] rfl (A8_guess_136 x1 x2 x3 σ r h)
  · replace h := ite_f c1 h
    refine AR.iload (pc := 71) (j := 4) dX8_guess_71 rfl ?_
    refine AR.bipush (pc := 73) (v := 6) dX8_guess_73 (by decide) ?_
    refine AR.icmp_gt (pc := 75) (tgt := 136) dX8_guess_75 (by decide) (fun c2 => ?_) (fun c2 => ?_)
    · replace h := ite_t c2 h
      exact AR.pick [1, 2, 3] rfl (A8_guess_136 x1 x2 x3 σ r h)
    · replace h := ite_f c2 h
      refine AR.iconst (pc := 78) (v := 0) dX8_guess_78 (by decide) ?_
      refine AR.istore (pc := 79) (L2 := [(5, .int 0), (0, .ref 0), (1, .int x1), (2, .int x2), (3, .int x3), (4, .int x4)]) dX8_guess_79 (by decide) rfl ?_
      exact AR.pick [1, 2, 3, 4, 5, 0] rfl (A8_guess_81 k59 x1 x4 hk59 (x2, x3, 0, σ) r h)
theorem A8_guess_59 {l : Launch} (x1 : Int32) (p : Int32 × Int32 × Int32 × HS) (r : Int32 × HS) (h : f8_guess_59 x1 p = some r) : AR l RX8 cX8_guess 6 (some .int) (wsU yX8_guess cX8_guess 6 (some .int)) rm8_guess SC 59 [(0, .ref 0), (1, .int x1), (2, .int (p.1)), (3, .int (p.2.1)), (4, .int (p.2.2.1))] [] p.2.2.2 (some (.int r.1), r.2) := by
  unfold f8_guess_59 at h
  exact wloop_run (body := fun k59 p => f8_guess_59_b k59 x1 p.1 p.2.1 p.2.2.1 p.2.2.2) (Q := fun p r => AR l RX8 cX8_guess 6 (some .int) (wsU yX8_guess cX8_guess 6 (some .int)) rm8_guess SC 59 [(0, .ref 0), (1, .int x1), (2, .int (p.1)), (3, .int (p.2.1)), (4, .int (p.2.2.1))] [] p.2.2.2 (some (.int r.1), r.2)) (fun k59 hk59 p r h => A8_guess_59_b k59 x1 p.1 p.2.1 p.2.2.1 hk59 p.2.2.2 r h) fuelN p r h
set_option maxHeartbeats 4000000 in
set_option maxRecDepth 100000 in
theorem A8_guess_12 {l : Launch} (x1 : Int32) (σ : HS) (r : Int32 × HS) (h : f8_guess_12 x1 σ = some r) : AR l RX8 cX8_guess 6 (some .int) (wsU yX8_guess cX8_guess 6 (some .int)) rm8_guess SC 12 [(0, .ref 0), (1, .int x1)] [] σ (some (.int r.1), r.2) := by
  unfold f8_guess_12 at h
  refine AR.aload_n (pc := 12) (j := 0) dX8_guess_12 rfl rfl ?_
  refine AR.getf (pc := 13) (ci := 8) (j := 1) (d := 5 + 2) (v := .ref 5) (T := TX8) dX8_guess_13 rfl rfl rfl (by decide) (fun w hw => wsU_in (uw_X8 w hw)) (wsU_in fl_X8_32) rfl ?_
  refine AR.getfN (pc := 16) (ci := 4) (j := 0) (d := 0) (v := .int (σ.1 5 0)) (T := TX4) dX8_guess_16 rfl rfl rfl (by decide) (fun w hw => wsU_in (uw_X4 w hw)) fn_X8_132 rfl ?_
  refine AR.if_ne (pc := 19) (tgt := 25) dX8_guess_19 (by decide) (fun c1 => ?_) (fun c1 => ?_)
  · replace h := ite_f c1 h
    refine AR.aload_n (pc := 25) (j := 0) dX8_guess_25 rfl rfl ?_
    refine AR.getf (pc := 26) (ci := 8) (j := 6) (d := 30 + 2) (v := .ref 30) (T := TX8) dX8_guess_26 rfl rfl rfl (by decide) (fun w hw => wsU_in (uw_X8 w hw)) (wsU_in fl_X8_76) rfl ?_
    refine AR.aload_n (pc := 29) (j := 0) dX8_guess_29 rfl rfl ?_
    refine AR.getf (pc := 30) (ci := 8) (j := 3) (d := 20 + 2) (v := .ref 20) (T := TX8) dX8_guess_30 rfl rfl rfl (by decide) (fun w hw => wsU_in (uw_X8 w hw)) (wsU_in fl_X8_54) rfl ?_
    obtain ⟨r2, h2, h⟩ := bd_some h
    refine AR.callVN (pc := 33) (As := [.ref 20]) (st := []) (ci := 0) dX8_guess_33 ⟨cd_X0_follow, im_X0_follow, se_X0_follow, ini_X0⟩ mn_X8_231 (A0_follow σ _ h2) ⟨rfl, pd_X0_follow⟩ ⟨Nat.le_of_ble_eq_true rfl, Nat.le_of_ble_eq_true rfl⟩ ⟨rfl, rfl⟩ rfl rfl rfl (Nat.le_of_ble_eq_true rfl) ?_
    refine AR.aload_n (pc := 36) (j := 0) dX8_guess_36 rfl rfl ?_
    refine AR.getf (pc := 37) (ci := 8) (j := 9) (d := 40 + 2) (v := .ref 40) (T := TX8) dX8_guess_37 rfl rfl rfl (by decide) (fun w hw => wsU_in (uw_X8 w hw)) (wsU_in fl_X8_88) rfl ?_
    refine AR.aload_n (pc := 40) (j := 0) dX8_guess_40 rfl rfl ?_
    refine AR.getf (pc := 41) (ci := 8) (j := 6) (d := 30 + 2) (v := .ref 30) (T := TX8) dX8_guess_41 rfl rfl rfl (by decide) (fun w hw => wsU_in (uw_X8 w hw)) (wsU_in fl_X8_76) rfl ?_
    refine AR.aload_n (pc := 44) (j := 0) dX8_guess_44 rfl rfl ?_
    refine AR.getf (pc := 45) (ci := 8) (j := 8) (d := 37 + 2) (v := .ref 37) (T := TX8) dX8_guess_45 rfl rfl rfl (by decide) (fun w hw => wsU_in (uw_X8 w hw)) (wsU_in fl_X8_82) rfl ?_
    obtain ⟨r3, h3, h⟩ := bd_some h
    refine AR.callVN (pc := 48) (As := [.ref 30, .ref 37]) (st := []) (ci := 2) dX8_guess_48 ⟨cd_X2_compare, im_X2_compare, se_X2_compare, ini_X2⟩ mn_X8_281 (A2_compare r2 _ h3) ⟨rfl, pd_X2_compare⟩ ⟨Nat.le_of_ble_eq_true rfl, Nat.le_of_ble_eq_true rfl⟩ ⟨rfl, rfl⟩ rfl rfl rfl (Nat.le_of_ble_eq_true rfl) ?_
    refine AR.iconst (pc := 51) (v := 0) dX8_guess_51 (by decide) ?_
    refine AR.istore_n (pc := 52) (L2 := [(2, .int 0), (0, .ref 0), (1, .int x1)]) dX8_guess_52 rfl (by decide) rfl ?_
    refine AR.bipush (pc := 53) (v := (-9)) dX8_guess_53 (by decide) ?_
    refine AR.istore_n (pc := 55) (L2 := [(3, .int (-9)), (2, .int 0), (0, .ref 0), (1, .int x1)]) dX8_guess_55 rfl (by decide) rfl ?_
    refine AR.iconst (pc := 56) (v := 0) dX8_guess_56 (by decide) ?_
    refine AR.istore (pc := 57) (L2 := [(4, .int 0), (3, .int (-9)), (2, .int 0), (0, .ref 0), (1, .int x1)]) dX8_guess_57 (by decide) rfl ?_
    exact AR.pick [3, 4, 2, 1, 0] rfl (A8_guess_59 x1 (0, (-9), 0, r3) r h)
  · replace h := ite_t c1 h
    refine AR.bipush (pc := 22) (v := (-3)) dX8_guess_22 (by decide) ?_
    exact AR.iret (pc := 24) rfl dX8_guess_24 (hrI (Option.some.inj h))
set_option maxHeartbeats 4000000 in
set_option maxRecDepth 100000 in
theorem A8_guess {l : Launch} (x1 : Int32) (σ : HS) (r : Int32 × HS) (h : f8_guess x1 σ = some r) : MA l yX8_guess (wsU yX8_guess cX8_guess 6 (some .int)) rm8_guess SC [.ref 0, .int x1] σ (some (.int r.1), r.2) := by
  refine MA.of (L := [(0, .ref 0), (1, .int x1)]) pn_X8_guess rfl (fun _ => Nat.le_of_ble_eq_true rfl) (fun _ => rfl) ?_
  unfold f8_guess at h
  refine AR.iload_n (pc := 0) (j := 1) dX8_guess_0 rfl rfl ?_
  refine AR.if_eq (pc := 1) (tgt := 12) dX8_guess_1 (by decide) (fun c1 => ?_) (fun c1 => ?_)
  · replace h := ite_t c1 h
    exact AR.pick [0, 1] rfl (A8_guess_12 x1 σ r h)
  · replace h := ite_f c1 h
    refine AR.iload_n (pc := 4) (j := 1) dX8_guess_4 rfl rfl ?_
    refine AR.iconst (pc := 5) (v := 1) dX8_guess_5 (by decide) ?_
    refine AR.icmp_eq (pc := 6) (tgt := 12) dX8_guess_6 (by decide) (fun c2 => ?_) (fun c2 => ?_)
    · replace h := ite_t c2 h
      exact AR.pick [0, 1] rfl (A8_guess_12 x1 σ r h)
    · replace h := ite_f c2 h
      refine AR.bipush (pc := 9) (v := (-2)) dX8_guess_9 (by decide) ?_
      exact AR.iret (pc := 11) rfl dX8_guess_11 (hrI (Option.some.inj h))
