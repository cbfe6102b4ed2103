noncomputable def f6_firstFault_73 (σ : HS) : Option (Int32 × HS) :=
  some ((σ.1 19 5), σ)
noncomputable def f6_firstFault_57 (k34 : Int32 × HS → Option (Int32 × HS)) (x3 : Int32) (σ : HS) : Option (Int32 × HS) :=
  bd (f6_readSign 59 σ) fun r1 =>
  if (r1.1 : Int32) = 0 then
    f6_firstFault_73 (r1.2)
  else
    bd (f6_readSpeaker (r1.2)) fun r3 =>
    if (r3.1 : Int32) = 0 then
      f6_firstFault_73 (r3.2)
    else
      k34 ((x3 + 1), r3.2)
noncomputable def f6_firstFault_34_b (k34 : Int32 × HS → Option (Int32 × HS)) (x3 : Int32) (σ : HS) : Option (Int32 × HS) :=
  if (5 : Int32) ≤ x3 then
    if ((σ.1 19 3) : Int32) ≤ (σ.1 19 4) then
      some ((-1), σ)
    else
      some ((σ.1 19 4), σ)
  else
    if (x3 : Int32) < 2 then
      f6_firstFault_57 k34 x3 σ
    else
      if ((σ.1 19 4) : Int32) < (σ.1 19 3) then
        f6_firstFault_57 k34 x3 σ
      else
        some ((-1), σ)
noncomputable def f6_firstFault_34 (p : Int32 × HS) : Option (Int32 × HS) :=
  wloop (fun k34 p => f6_firstFault_34_b k34 p.1 p.2) fuelN p
noncomputable def f6_firstFault (x1 : Int32) (x2 : Int32) (σ : HS) : Option (Int32 × HS) :=
  bd (f6_readJar (uI (uI (uI (uI σ 19 2 x1) 19 3 x2) 19 4 0) 19 5 (-1))) fun r1 =>
  if (r1.1 : Int32) = 0 then
    some (((r1.2).1 19 5), r1.2)
  else
    f6_firstFault_34 (0, r1.2)
set_option maxHeartbeats 4000000 in
set_option maxRecDepth 100000 in
theorem A6_firstFault_73 {l : Launch} (σ : HS) (r : Int32 × HS) (h : f6_firstFault_73 σ = some r) : AR l RX6 cX6_firstFault 4 (some .int) (wsU yX6_firstFault cX6_firstFault 4 (some .int)) rm6_firstFault SC 73 [(0, .ref 19)] [] σ (some (.int r.1), r.2) := by
  unfold f6_firstFault_73 at h
  refine AR.aload_n (pc := 73) (j := 0) dX6_firstFault_73 rfl rfl ?_
  refine AR.getf (pc := 74) (ci := 6) (j := 5) (d := 0) (v := .int (σ.1 19 5)) (T := TX6) dX6_firstFault_74 rfl rfl rfl (by decide) (fun w hw => wsU_in (uw_X6 w hw)) (wsU_in fl_X6_21) rfl ?_
  exact AR.iret (pc := 77) rfl dX6_firstFault_77 (hrI (Option.some.inj h))
set_option maxHeartbeats 4000000 in
set_option maxRecDepth 100000 in
theorem A6_firstFault_57 {l : Launch} (k34 : Int32 × HS → Option (Int32 × HS)) (x3 : Int32) (hk34 : ∀ (p : Int32 × HS) (r : Int32 × HS), k34 p = some r → AR l RX6 cX6_firstFault 4 (some .int) (wsU yX6_firstFault cX6_firstFault 4 (some .int)) rm6_firstFault SC 34 [(0, .ref 19), (3, .int (p.1))] [] p.2 (some (.int r.1), r.2)) (σ : HS) (r : Int32 × HS) (h : f6_firstFault_57 k34 x3 σ = some r) : AR l RX6 cX6_firstFault 4 (some .int) (wsU yX6_firstFault cX6_firstFault 4 (some .int)) rm6_firstFault SC 57 [(0, .ref 19), (3, .int x3)] [] σ (some (.int r.1), r.2) := by
  unfold f6_firstFault_57 at h
  refine AR.aload_n (pc := 57) (j := 0) dX6_firstFault_57 rfl rfl ?_
  refine AR.bipush (pc := 58) (v := 59) dX6_firstFault_58 (by decide) ?_
  obtain ⟨r1, h1, h⟩ := bd_some h
  refine AR.callV (pc := 60) (As := [.int 59]) (st := []) (ci := 6) dX6_firstFault_60 ⟨cd_X6_readSign, im_X6_readSign, se_X6_readSign, ini_X6⟩ ml_X6_36 (A6_readSign 59 σ _ h1) ⟨rfl, pd_X6_readSign⟩ ⟨Nat.le_of_ble_eq_true rfl, Nat.le_of_ble_eq_true rfl⟩ ⟨rfl, rfl⟩ rfl rfl rfl (Nat.le_of_ble_eq_true rfl) ?_
  refine AR.if_eq (pc := 63) (tgt := 73) dX6_firstFault_63 (by decide) (fun c2 => ?_) (fun c2 => ?_)
  · replace h := ite_t c2 h
    exact AR.pick [0] rfl (A6_firstFault_73 (r1.2) r h)
  · replace h := ite_f c2 h
    refine AR.aload_n (pc := 66) (j := 0) dX6_firstFault_66 rfl rfl ?_
    obtain ⟨r3, h3, h⟩ := bd_some h
    refine AR.callV (pc := 67) (As := []) (st := []) (ci := 6) dX6_firstFault_67 ⟨cd_X6_readSpeaker, im_X6_readSpeaker, se_X6_readSpeaker, ini_X6⟩ ml_X6_40 (A6_readSpeaker (r1.2) _ h3) ⟨rfl, pd_X6_readSpeaker⟩ ⟨Nat.le_of_ble_eq_true rfl, Nat.le_of_ble_eq_true rfl⟩ ⟨rfl, rfl⟩ rfl rfl rfl (Nat.le_of_ble_eq_true rfl) ?_
    refine AR.if_ne (pc := 70) (tgt := 78) dX6_firstFault_70 (by decide) (fun c4 => ?_) (fun c4 => ?_)
    · replace h := ite_f c4 h
      refine AR.iinc (pc := 78) (j := 1) (v := (x3 + 1)) (L2 := [(3, .int (x3 + 1)), (0, .ref 19)]) dX6_firstFault_78 rfl rfl (by decide) rfl ?_
      refine AR.goto (pc := 81) (tgt := 34) dX6_firstFault_81 (by decide) ?_
      exact AR.pick [1, 0] rfl (hk34 ((x3 + 1), r3.2) r h)
    · replace h := ite_t c4 h
      exact AR.pick [0] rfl (A6_firstFault_73 (r3.2) r h)
set_option maxHeartbeats 4000000 in
set_option maxRecDepth 100000 in
theorem A6_firstFault_34_b {l : Launch} (k34 : Int32 × HS → Option (Int32 × HS)) (x3 : Int32) (hk34 : ∀ (p : Int32 × HS) (r : Int32 × HS), k34 p = some r → AR l RX6 cX6_firstFault 4 (some .int) (wsU yX6_firstFault cX6_firstFault 4 (some .int)) rm6_firstFault SC 34 [(0, .ref 19), (3, .int (p.1))] [] p.2 (some (.int r.1), r.2)) (σ : HS) (r : Int32 × HS) (h : f6_firstFault_34_b k34 x3 σ = some r) : AR l RX6 cX6_firstFault 4 (some .int) (wsU yX6_firstFault cX6_firstFault 4 (some .int)) rm6_firstFault SC 34 [(0, .ref 19), (3, .int x3)] [] σ (some (.int r.1), r.2) := by
  unfold f6_firstFault_34_b at h
  refine AR.iload_n (pc := 34) (j := 1) dX6_firstFault_34 rfl rfl ?_
  refine AR.iconst (pc := 35) (v := 5) dX6_firstFault_35 (by decide) ?_
  refine AR.icmp_ge (pc := 36) (tgt := 84) dX6_firstFault_36 (by decide) (fun c1 => ?_) (fun c1 => ?_)
  · replace h := ite_t c1 h
    refine AR.aload_n (pc := 84) (j := 0) dX6_firstFault_84 rfl rfl ?_
    refine AR.getf (pc := 85) (ci := 6) (j := 4) (d := 0) (v := .int (σ.1 19 4)) (T := TX6) dX6_firstFault_85 rfl rfl rfl (by decide) (fun w hw => wsU_in (uw_X6 w hw)) (wsU_in fl_X6_18) rfl ?_
    refine AR.aload_n (pc := 88) (j := 0) dX6_firstFault_88 rfl rfl ?_
    refine AR.getf (pc := 89) (ci := 6) (j := 3) (d := 0) (v := .int (σ.1 19 3)) (T := TX6) dX6_firstFault_89 rfl rfl rfl (by decide) (fun w hw => wsU_in (uw_X6 w hw)) (wsU_in fl_X6_15) rfl ?_
    refine AR.icmp_ge (pc := 92) (tgt := 102) dX6_firstFault_92 (by decide) (fun c2 => ?_) (fun c2 => ?_)
    · replace h := ite_t c2 h
      refine AR.iconst (pc := 102) (v := (-1)) dX6_firstFault_102 (by decide) ?_
      exact AR.iret (pc := 103) rfl dX6_firstFault_103 (hrI (Option.some.inj h))
    · replace h := ite_f c2 h
      refine AR.aload_n (pc := 95) (j := 0) dX6_firstFault_95 rfl rfl ?_
      refine AR.getf (pc := 96) (ci := 6) (j := 4) (d := 0) (v := .int (σ.1 19 4)) (T := TX6) dX6_firstFault_96 rfl rfl rfl (by decide) (fun w hw => wsU_in (uw_X6 w hw)) (wsU_in fl_X6_18) rfl ?_
      refine AR.goto (pc := 99) (tgt := 103) dX6_firstFault_99 (by decide) ?_
      exact AR.iret (pc := 103) rfl dX6_firstFault_103 (hrI (Option.some.inj h))
  · replace h := ite_f c1 h
    refine AR.iload_n (pc := 39) (j := 1) dX6_firstFault_39 rfl rfl ?_
    refine AR.iconst (pc := 40) (v := 2) dX6_firstFault_40 (by decide) ?_
    refine AR.icmp_lt (pc := 41) (tgt := 57) dX6_firstFault_41 (by decide) (fun c3 => ?_) (fun c3 => ?_)
    · replace h := ite_t c3 h
      exact AR.pick [0, 1] rfl (A6_firstFault_57 k34 x3 hk34 σ r h)
    · replace h := ite_f c3 h
      refine AR.aload_n (pc := 44) (j := 0) dX6_firstFault_44 rfl rfl ?_
      refine AR.getf (pc := 45) (ci := 6) (j := 4) (d := 0) (v := .int (σ.1 19 4)) (T := TX6) dX6_firstFault_45 rfl rfl rfl (by decide) (fun w hw => wsU_in (uw_X6 w hw)) (wsU_in fl_X6_18) rfl ?_
      refine AR.aload_n (pc := 48) (j := 0) dX6_firstFault_48 rfl rfl ?_
      refine AR.getf (pc := 49) (ci := 6) (j := 3) (d := 0) (v := .int (σ.1 19 3)) (T := TX6) dX6_firstFault_49 rfl rfl rfl (by decide) (fun w hw => wsU_in (uw_X6 w hw)) (wsU_in fl_X6_15) rfl ?_
      refine AR.icmp_lt (pc := 52) (tgt := 57) dX6_firstFault_52 (by decide) (fun c4 => ?_) (fun c4 => ?_)
      · replace h := ite_t c4 h
        exact AR.pick [0, 1] rfl (A6_firstFault_57 k34 x3 hk34 σ r h)
      · replace h := ite_f c4 h
        refine AR.iconst (pc := 55) (v := (-1)) dX6_firstFault_55 (by decide) ?_
        exact AR.iret (pc := 56) rfl dX6_firstFault_56 (hrI (Option.some.inj h))
theorem A6_firstFault_34 {l : Launch} (p : Int32 × HS) (r : Int32 × HS) (h : f6_firstFault_34 p = some r) : AR l RX6 cX6_firstFault 4 (some .int) (wsU yX6_firstFault cX6_firstFault 4 (some .int)) rm6_firstFault SC 34 [(0, .ref 19), (3, .int (p.1))] [] p.2 (some (.int r.1), r.2) := by
  unfold f6_firstFault_34 at h
  exact wloop_run (body := fun k34 p => f6_firstFault_34_b k34 p.1 p.2) (Q := fun p r => AR l RX6 cX6_firstFault 4 (some .int) (wsU yX6_firstFault cX6_firstFault 4 (some .int)) rm6_firstFault SC 34 [(0, .ref 19), (3, .int (p.1))] [] p.2 (some (.int r.1), r.2)) (fun k34 hk34 p r h => A6_firstFault_34_b k34 p.1 hk34 p.2 r h) fuelN p r h
set_option maxHeartbeats 4000000 in
set_option maxRecDepth 100000 in
theorem A6_firstFault {l : Launch} (x1 : Int32) (x2 : Int32) (σ : HS) (r : Int32 × HS) (h : f6_firstFault x1 x2 σ = some r) : MA l yX6_firstFault (wsU yX6_firstFault cX6_firstFault 4 (some .int)) rm6_firstFault SC [.ref 19, .int x1, .int x2] σ (some (.int r.1), r.2) := by
  refine MA.of (L := [(0, .ref 19), (1, .int x1), (2, .int x2)]) pn_X6_firstFault rfl (fun _ => Nat.le_of_ble_eq_true rfl) (fun _ => rfl) ?_
  unfold f6_firstFault at h
  refine AR.aload_n (pc := 0) (j := 0) dX6_firstFault_0 rfl rfl ?_
  refine AR.iload_n (pc := 1) (j := 1) dX6_firstFault_1 rfl rfl ?_
  refine AR.putI (pc := 2) (ci := 6) (j := 2) (T := TX6) (ty0 := tyX6) (ty := .int) dX6_firstFault_2 rfl rfl rfl (by decide) (fun w hw => wsU_in (uw_X6 w hw)) tyX6_ok nmX6 (wsU_in fl_X6_9) rfl (by decide +kernel) rfl rfl ?_
  refine AR.aload_n (pc := 5) (j := 0) dX6_firstFault_5 rfl rfl ?_
  refine AR.iload_n (pc := 6) (j := 2) dX6_firstFault_6 rfl rfl ?_
  refine AR.putI (pc := 7) (ci := 6) (j := 3) (T := TX6) (ty0 := tyX6) (ty := .int) dX6_firstFault_7 rfl rfl rfl (by decide) (fun w hw => wsU_in (uw_X6 w hw)) tyX6_ok nmX6 (wsU_in fl_X6_15) rfl (by decide +kernel) rfl rfl ?_
  refine AR.aload_n (pc := 10) (j := 0) dX6_firstFault_10 rfl rfl ?_
  refine AR.iconst (pc := 11) (v := 0) dX6_firstFault_11 (by decide) ?_
  refine AR.putI (pc := 12) (ci := 6) (j := 4) (T := TX6) (ty0 := tyX6) (ty := .int) dX6_firstFault_12 rfl rfl rfl (by decide) (fun w hw => wsU_in (uw_X6 w hw)) tyX6_ok nmX6 (wsU_in fl_X6_18) rfl (by decide +kernel) rfl rfl ?_
  refine AR.aload_n (pc := 15) (j := 0) dX6_firstFault_15 rfl rfl ?_
  refine AR.iconst (pc := 16) (v := (-1)) dX6_firstFault_16 (by decide) ?_
  refine AR.putI (pc := 17) (ci := 6) (j := 5) (T := TX6) (ty0 := tyX6) (ty := .int) dX6_firstFault_17 rfl rfl rfl (by decide) (fun w hw => wsU_in (uw_X6 w hw)) tyX6_ok nmX6 (wsU_in fl_X6_21) rfl (by decide +kernel) rfl rfl ?_
  refine AR.aload_n (pc := 20) (j := 0) dX6_firstFault_20 rfl rfl ?_
  obtain ⟨r1, h1, h⟩ := bd_some h
  refine AR.callV (pc := 21) (As := []) (st := []) (ci := 6) dX6_firstFault_21 ⟨cd_X6_readJar, im_X6_readJar, se_X6_readJar, ini_X6⟩ ml_X6_32 (A6_readJar (uI (uI (uI (uI σ 19 2 x1) 19 3 x2) 19 4 0) 19 5 (-1)) _ h1) ⟨rfl, pd_X6_readJar⟩ ⟨Nat.le_of_ble_eq_true rfl, Nat.le_of_ble_eq_true rfl⟩ ⟨rfl, rfl⟩ rfl rfl rfl (Nat.le_of_ble_eq_true rfl) ?_
  refine AR.if_ne (pc := 24) (tgt := 32) dX6_firstFault_24 (by decide) (fun c2 => ?_) (fun c2 => ?_)
  · replace h := ite_f c2 h
    refine AR.iconst (pc := 32) (v := 0) dX6_firstFault_32 (by decide) ?_
    refine AR.istore_n (pc := 33) (L2 := [(3, .int 0), (0, .ref 19), (1, .int x1), (2, .int x2)]) dX6_firstFault_33 rfl (by decide) rfl ?_
    exact AR.pick [1, 0] rfl (A6_firstFault_34 (0, r1.2) r h)
  · replace h := ite_t c2 h
    refine AR.aload_n (pc := 27) (j := 0) dX6_firstFault_27 rfl rfl ?_
    refine AR.getf (pc := 28) (ci := 6) (j := 5) (d := 0) (v := .int ((r1.2).1 19 5)) (T := TX6) dX6_firstFault_28 rfl rfl rfl (by decide) (fun w hw => wsU_in (uw_X6 w hw)) (wsU_in fl_X6_21) rfl ?_
    exact AR.iret (pc := 31) rfl dX6_firstFault_31 (hrI (Option.some.inj h))
noncomputable def f7_isSheet_13 (σ : HS) : Option (Int32 × HS) :=
  some (0, σ)
noncomputable def f7_isSheet (x0 : Int32) (σ : HS) : Option (Int32 × HS) :=
  if (x0 : Int32) < 0 then
    f7_isSheet_13 σ
  else
    if (4 : Int32) ≤ x0 then
      f7_isSheet_13 σ
    else
      some (1, σ)
set_option maxHeartbeats 4000000 in
set_option maxRecDepth 100000 in
theorem A7_isSheet_13 {l : Launch} (σ : HS) (r : Int32 × HS) (h : f7_isSheet_13 σ = some r) : AR l RX7 cX7_isSheet 1 (some .boolean) (wsU yX7_isSheet cX7_isSheet 1 (some .boolean)) rm7_isSheet SC 13 [] [] σ (some (.int r.1), r.2) := by
  unfold f7_isSheet_13 at h
  refine AR.iconst (pc := 13) (v := 0) dX7_isSheet_13 (by decide) ?_
  exact AR.zret (pc := 14) rfl (Or.inl rfl) dX7_isSheet_14 (hrI (Option.some.inj h))
set_option maxHeartbeats 4000000 in
set_option maxRecDepth 100000 in
theorem A7_isSheet {l : Launch} (x0 : Int32) (σ : HS) (r : Int32 × HS) (h : f7_isSheet x0 σ = some r) : MA l yX7_isSheet (wsU yX7_isSheet cX7_isSheet 1 (some .boolean)) rm7_isSheet SC [.int x0] σ (some (.int r.1), r.2) := by
  refine MA.of (L := [(0, .int x0)]) pn_X7_isSheet rfl (fun _ => Nat.le_of_ble_eq_true rfl) (fun _ => rfl) ?_
  unfold f7_isSheet at h
  refine AR.iload_n (pc := 0) (j := 0) dX7_isSheet_0 rfl rfl ?_
  refine AR.if_lt (pc := 1) (tgt := 13) dX7_isSheet_1 (by decide) (fun c1 => ?_) (fun c1 => ?_)
  · replace h := ite_t c1 h
    exact AR.pick [] rfl (A7_isSheet_13 σ r h)
  · replace h := ite_f c1 h
    refine AR.iload_n (pc := 4) (j := 0) dX7_isSheet_4 rfl rfl ?_
    refine AR.iconst (pc := 5) (v := 4) dX7_isSheet_5 (by decide) ?_
    refine AR.icmp_ge (pc := 6) (tgt := 13) dX7_isSheet_6 (by decide) (fun c2 => ?_) (fun c2 => ?_)
    · replace h := ite_t c2 h
      exact AR.pick [] rfl (A7_isSheet_13 σ r h)
    · replace h := ite_f c2 h
      refine AR.iconst (pc := 9) (v := 1) dX7_isSheet_9 (by decide) ?_
      refine AR.goto (pc := 10) (tgt := 14) dX7_isSheet_10 (by decide) ?_
      exact AR.zret (pc := 14) rfl (Or.inr rfl) dX7_isSheet_14 (hrI (Option.some.inj h))
noncomputable def f7_isLane_13 (σ : HS) : Option (Int32 × HS) :=
  some (0, σ)
noncomputable def f7_isLane (x0 : Int32) (σ : HS) : Option (Int32 × HS) :=
  if (x0 : Int32) < 0 then
    f7_isLane_13 σ
  else
    if (3 : Int32) ≤ x0 then
      f7_isLane_13 σ
    else
      some (1, σ)
set_option maxHeartbeats 4000000 in
set_option maxRecDepth 100000 in
theorem A7_isLane_13 {l : Launch} (σ : HS) (r : Int32 × HS) (h : f7_isLane_13 σ = some r) : AR l RX7 cX7_isLane 1 (some .boolean) (wsU yX7_isLane cX7_isLane 1 (some .boolean)) rm7_isLane SC 13 [] [] σ (some (.int r.1), r.2) := by
  unfold f7_isLane_13 at h
  refine AR.iconst (pc := 13) (v := 0) dX7_isLane_13 (by decide) ?_
  exact AR.zret (pc := 14) rfl (Or.inl rfl) dX7_isLane_14 (hrI (Option.some.inj h))
set_option maxHeartbeats 4000000 in
set_option maxRecDepth 100000 in
theorem A7_isLane {l : Launch} (x0 : Int32) (σ : HS) (r : Int32 × HS) (h : f7_isLane x0 σ = some r) : MA l yX7_isLane (wsU yX7_isLane cX7_isLane 1 (some .boolean)) rm7_isLane SC [.int x0] σ (some (.int r.1), r.2) := by
  refine MA.of (L := [(0, .int x0)]) pn_X7_isLane rfl (fun _ => Nat.le_of_ble_eq_true rfl) (fun _ => rfl) ?_
  unfold f7_isLane at h
  refine AR.iload_n (pc := 0) (j := 0) dX7_isLane_0 rfl rfl ?_
  refine AR.if_lt (pc := 1) (tgt := 13) dX7_isLane_1 (by decide) (fun c1 => ?_) (fun c1 => ?_)
  · replace h := ite_t c1 h
    exact AR.pick [] rfl (A7_isLane_13 σ r h)
  · replace h := ite_f c1 h
    refine AR.iload_n (pc := 4) (j := 0) dX7_isLane_4 rfl rfl ?_
    refine AR.iconst (pc := 5) (v := 3) dX7_isLane_5 (by decide) ?_
    refine AR.icmp_ge (pc := 6) (tgt := 13) dX7_isLane_6 (by decide) (fun c2 => ?_) (fun c2 => ?_)
    · replace h := ite_t c2 h
      exact AR.pick [] rfl (A7_isLane_13 σ r h)
    · replace h := ite_f c2 h
      refine AR.iconst (pc := 9) (v := 1) dX7_isLane_9 (by decide) ?_
      refine AR.goto (pc := 10) (tgt := 14) dX7_isLane_10 (by decide) ?_
      exact AR.zret (pc := 14) rfl (Or.inr rfl) dX7_isLane_14 (hrI (Option.some.inj h))
noncomputable def f7_laneOf (x1 : Int32) (σ : HS) : Option (Int32 × HS) :=
  bd (f8_at 2 4 x1 σ) fun r1 =>
  some (r1.1, r1.2)
set_option maxHeartbeats 4000000 in
set_option maxRecDepth 100000 in
theorem A7_laneOf {l : Launch} (x1 : Int32) (σ : HS) (r : Int32 × HS) (h : f7_laneOf x1 σ = some r) : MA l yX7_laneOf (wsU yX7_laneOf cX7_laneOf 2 (some .int)) rm7_laneOf SC [.ref 1, .int x1] σ (some (.int r.1), r.2) := by
  refine MA.of (L := [(0, .ref 1), (1, .int x1)]) pn_X7_laneOf rfl (fun _ => Nat.le_of_ble_eq_true rfl) (fun _ => rfl) ?_
  unfold f7_laneOf at h
  refine AR.aload_n (pc := 0) (j := 0) dX7_laneOf_0 rfl rfl ?_
  refine AR.getf (pc := 1) (ci := 7) (j := 0) (d := 2 + 2) (v := .ref 2) (T := TX7) dX7_laneOf_1 rfl rfl rfl (by decide) (fun w hw => wsU_in (uw_X7 w hw)) (wsU_in fl_X7_11) rfl ?_
  refine AR.iload_n (pc := 4) (j := 1) dX7_laneOf_4 rfl rfl ?_
  obtain ⟨r1, h1, h⟩ := bd_some h
  refine AR.callSN (pc := 5) (As := [.ref 2, .int x1]) (st := []) dX7_laneOf_5 ⟨cd_X8_at, sm_X8_at, ini_X8⟩ mn_X7_25 (A8_at 2 4 rfl x1 σ _ h1) pd_X8_at ⟨Nat.le_of_ble_eq_true rfl, Nat.le_of_ble_eq_true rfl⟩ ⟨rfl, rfl⟩ rfl (Nat.le_of_ble_eq_true rfl) ?_
  exact AR.iret (pc := 8) rfl dX7_laneOf_8 (hrI (Option.some.inj h))
noncomputable def f7_sizeOf (x1 : Int32) (σ : HS) : Option (Int32 × HS) :=
  bd (f8_at 3 4 x1 σ) fun r1 =>
  some (r1.1, r1.2)
set_option maxHeartbeats 4000000 in
set_option maxRecDepth 100000 in
theorem A7_sizeOf {l : Launch} (x1 : Int32) (σ : HS) (r : Int32 × HS) (h : f7_sizeOf x1 σ = some r) : MA l yX7_sizeOf (wsU yX7_sizeOf cX7_sizeOf 2 (some .int)) rm7_sizeOf SC [.ref 1, .int x1] σ (some (.int r.1), r.2) := by
  refine MA.of (L := [(0, .ref 1), (1, .int x1)]) pn_X7_sizeOf rfl (fun _ => Nat.le_of_ble_eq_true rfl) (fun _ => rfl) ?_
  unfold f7_sizeOf at h
  refine AR.aload_n (pc := 0) (j := 0) dX7_sizeOf_0 rfl rfl ?_
  refine AR.getf (pc := 1) (ci := 7) (j := 1) (d := 3 + 2) (v := .ref 3) (T := TX7) dX7_sizeOf_1 rfl rfl rfl (by decide) (fun w hw => wsU_in (uw_X7 w hw)) (wsU_in fl_X7_15) rfl ?_
  refine AR.iload_n (pc := 4) (j := 1) dX7_sizeOf_4 rfl rfl ?_
  obtain ⟨r1, h1, h⟩ := bd_some h
  refine AR.callSN (pc := 5) (As := [.ref 3, .int x1]) (st := []) dX7_sizeOf_5 ⟨cd_X8_at, sm_X8_at, ini_X8⟩ mn_X7_25 (A8_at 3 4 rfl x1 σ _ h1) pd_X8_at ⟨Nat.le_of_ble_eq_true rfl, Nat.le_of_ble_eq_true rfl⟩ ⟨rfl, rfl⟩ rfl (Nat.le_of_ble_eq_true rfl) ?_
  exact AR.iret (pc := 8) rfl dX7_sizeOf_8 (hrI (Option.some.inj h))
noncomputable def f7_isEmpty (x1 : Int32) (σ : HS) : Option (Int32 × HS) :=
  bd (f7_laneOf x1 σ) fun r1 =>
  if (r1.1 : Int32) = (-1) then
    some (1, r1.2)
  else
    some (0, r1.2)
set_option maxHeartbeats 4000000 in
set_option maxRecDepth 100000 in
theorem A7_isEmpty {l : Launch} (x1 : Int32) (σ : HS) (r : Int32 × HS) (h : f7_isEmpty x1 σ = some r) : MA l yX7_isEmpty (wsU yX7_isEmpty cX7_isEmpty 2 (some .boolean)) rm7_isEmpty SC [.ref 1, .int x1] σ (some (.int r.1), r.2) := by
  refine MA.of (L := [(0, .ref 1), (1, .int x1)]) pn_X7_isEmpty rfl (fun _ => Nat.le_of_ble_eq_true rfl) (fun _ => rfl) ?_
  unfold f7_isEmpty at h
  refine AR.aload_n (pc := 0) (j := 0) dX7_isEmpty_0 rfl rfl ?_
  refine AR.iload_n (pc := 1) (j := 1) dX7_isEmpty_1 rfl rfl ?_
  obtain ⟨r1, h1, h⟩ := bd_some h
  refine AR.callV (pc := 2) (As := [.int x1]) (st := []) (ci := 7) dX7_isEmpty_2 ⟨cd_X7_laneOf, im_X7_laneOf, se_X7_laneOf, ini_X7⟩ ml_X7_29 (A7_laneOf x1 σ _ h1) ⟨rfl, pd_X7_laneOf⟩ ⟨Nat.le_of_ble_eq_true rfl, Nat.le_of_ble_eq_true rfl⟩ ⟨rfl, rfl⟩ rfl rfl rfl (Nat.le_of_ble_eq_true rfl) ?_
  refine AR.iconst (pc := 5) (v := (-1)) dX7_isEmpty_5 (by decide) ?_
  refine AR.icmp_ne (pc := 6) (tgt := 13) dX7_isEmpty_6 (by decide) (fun c2 => ?_) (fun c2 => ?_)
  · replace h := ite_f c2 h
    refine AR.iconst (pc := 13) (v := 0) dX7_isEmpty_13 (by decide) ?_
    exact AR.zret (pc := 14) rfl (Or.inl rfl) dX7_isEmpty_14 (hrI (Option.some.inj h))
  · replace h := ite_t c2 h
    refine AR.iconst (pc := 9) (v := 1) dX7_isEmpty_9 (by decide) ?_
    refine AR.goto (pc := 10) (tgt := 14) dX7_isEmpty_10 (by decide) ?_
    exact AR.zret (pc := 14) rfl (Or.inr rfl) dX7_isEmpty_14 (hrI (Option.some.inj h))
noncomputable def f7_placeOf (x0 : Int32) (x1 : Int32) (σ : HS) : Option (Int32 × HS) :=
  some (((x0 * 100) + x1), σ)
set_option maxHeartbeats 4000000 in
set_option maxRecDepth 100000 in
theorem A7_placeOf {l : Launch} (x0 : Int32) (x1 : Int32) (σ : HS) (r : Int32 × HS) (h : f7_placeOf x0 x1 σ = some r) : MA l yX7_placeOf (wsU yX7_placeOf cX7_placeOf 2 (some .int)) rm7_placeOf SC [.int x0, .int x1] σ (some (.int r.1), r.2) := by
  refine MA.of (L := [(0, .int x0), (1, .int x1)]) pn_X7_placeOf rfl (fun _ => Nat.le_of_ble_eq_true rfl) (fun _ => rfl) ?_
  unfold f7_placeOf at h
  refine AR.iload_n (pc := 0) (j := 0) dX7_placeOf_0 rfl rfl ?_
  refine AR.bipush (pc := 1) (v := 100) dX7_placeOf_1 (by decide) ?_
  refine AR.imul (pc := 3) dX7_placeOf_3 ?_
  refine AR.iload_n (pc := 4) (j := 1) dX7_placeOf_4 rfl rfl ?_
  refine AR.iadd (pc := 5) dX7_placeOf_5 ?_
  exact AR.iret (pc := 6) rfl dX7_placeOf_6 (hrI (Option.some.inj h))
noncomputable def f7_valueAt (x1 : Int32) (x2 : Int32) (σ : HS) : Option (Int32 × HS) :=
  bd (f7_placeOf x1 x2 σ) fun r1 =>
  bd (f8_at 4 400 (r1.1) (r1.2)) fun r2 =>
  some (r2.1, r2.2)
set_option maxHeartbeats 4000000 in
set_option maxRecDepth 100000 in
theorem A7_valueAt {l : Launch} (x1 : Int32) (x2 : Int32) (σ : HS) (r : Int32 × HS) (h : f7_valueAt x1 x2 σ = some r) : MA l yX7_valueAt (wsU yX7_valueAt cX7_valueAt 3 (some .int)) rm7_valueAt SC [.ref 1, .int x1, .int x2] σ (some (.int r.1), r.2) := by
  refine MA.of (L := [(0, .ref 1), (1, .int x1), (2, .int x2)]) pn_X7_valueAt rfl (fun _ => Nat.le_of_ble_eq_true rfl) (fun _ => rfl) ?_
  unfold f7_valueAt at h
  refine AR.aload_n (pc := 0) (j := 0) dX7_valueAt_0 rfl rfl ?_
  refine AR.getf (pc := 1) (ci := 7) (j := 2) (d := 4 + 2) (v := .ref 4) (T := TX7) dX7_valueAt_1 rfl rfl rfl (by decide) (fun w hw => wsU_in (uw_X7 w hw)) (wsU_in fl_X7_18) rfl ?_
  refine AR.iload_n (pc := 4) (j := 1) dX7_valueAt_4 rfl rfl ?_
  refine AR.iload_n (pc := 5) (j := 2) dX7_valueAt_5 rfl rfl ?_
  obtain ⟨r1, h1, h⟩ := bd_some h
  refine AR.callS (pc := 6) (As := [.int x1, .int x2]) (st := [.ref 4]) dX7_valueAt_6 ⟨cd_X7_placeOf, sm_X7_placeOf, ini_X7⟩ ml_X7_33 (A7_placeOf x1 x2 σ _ h1) ⟨rfl, pd_X7_placeOf⟩ ⟨Nat.le_of_ble_eq_true rfl, Nat.le_of_ble_eq_true rfl⟩ ⟨rfl, rfl⟩ rfl (Nat.le_of_ble_eq_true rfl) ?_
  obtain ⟨r2, h2, h⟩ := bd_some h
  refine AR.callSN (pc := 9) (As := [.ref 4, .int (r1.1)]) (st := []) dX7_valueAt_9 ⟨cd_X8_at, sm_X8_at, ini_X8⟩ mn_X7_25 (A8_at 4 400 rfl (r1.1) (r1.2) _ h2) pd_X8_at ⟨Nat.le_of_ble_eq_true rfl, Nat.le_of_ble_eq_true rfl⟩ ⟨rfl, rfl⟩ rfl (Nat.le_of_ble_eq_true rfl) ?_
  exact AR.iret (pc := 12) rfl dX7_valueAt_12 (hrI (Option.some.inj h))
noncomputable def f7_renew_21_b (k21 : Int32 × HS → Option (HS)) (x1 : Int32) (x4 : Int32) (σ : HS) : Option (HS) :=
  if (100 : Int32) ≤ x4 then
    some σ
  else
    bd (f7_placeOf x1 x4 σ) fun r2 =>
    bd (f8_set 4 400 (r2.1) 0 (r2.2)) fun r3 =>
    k21 ((x4 + 1), r3)
noncomputable def f7_renew_21 (x1 : Int32) (p : Int32 × HS) : Option (HS) :=
  wloop (fun k21 p => f7_renew_21_b k21 x1 p.1 p.2) fuelN p
noncomputable def f7_renew (x1 : Int32) (x2 : Int32) (x3 : Int32) (σ : HS) : Option (HS) :=
  bd (f8_set 2 4 x1 x2 σ) fun r1 =>
  bd (f8_set 3 4 x1 x3 r1) fun r2 =>
  f7_renew_21 x1 (0, r2)
set_option maxHeartbeats 4000000 in
set_option maxRecDepth 100000 in
theorem A7_renew_21_b {l : Launch} (k21 : Int32 × HS → Option (HS)) (x1 : Int32) (x4 : Int32) (hk21 : ∀ (p : Int32 × HS) (r : HS), k21 p = some r → AR l RX7 cX7_renew 5 none (wsU yX7_renew cX7_renew 5 none) rm7_renew SC 21 [(0, .ref 1), (1, .int x1), (4, .int (p.1))] [] p.2 (none, r)) (σ : HS) (r : HS) (h : f7_renew_21_b k21 x1 x4 σ = some r) : AR l RX7 cX7_renew 5 none (wsU yX7_renew cX7_renew 5 none) rm7_renew SC 21 [(0, .ref 1), (1, .int x1), (4, .int x4)] [] σ (none, r) := by
  unfold f7_renew_21_b at h
  refine AR.iload (pc := 21) (j := 2) dX7_renew_21 rfl ?_
  refine AR.bipush (pc := 23) (v := 100) dX7_renew_23 (by decide) ?_
  refine AR.icmp_ge (pc := 25) (tgt := 48) dX7_renew_25 (by decide) (fun c1 => ?_) (fun c1 => ?_)
  · replace h := ite_t c1 h
    exact AR.vret (pc := 48) rfl dX7_renew_48 (hrV (Option.some.inj h))
  · replace h := ite_f c1 h
    refine AR.aload_n (pc := 28) (j := 0) dX7_renew_28 rfl rfl ?_
    refine AR.getf (pc := 29) (ci := 7) (j := 2) (d := 4 + 2) (v := .ref 4) (T := TX7) dX7_renew_29 rfl rfl rfl (by decide) (fun w hw => wsU_in (uw_X7 w hw)) (wsU_in fl_X7_18) rfl ?_
    refine AR.iload_n (pc := 32) (j := 1) dX7_renew_32 rfl rfl ?_
    refine AR.iload (pc := 33) (j := 2) dX7_renew_33 rfl ?_
    obtain ⟨r2, h2, h⟩ := bd_some h
    refine AR.callS (pc := 35) (As := [.int x1, .int x4]) (st := [.ref 4]) dX7_renew_35 ⟨cd_X7_placeOf, sm_X7_placeOf, ini_X7⟩ ml_X7_33 (A7_placeOf x1 x4 σ _ h2) ⟨rfl, pd_X7_placeOf⟩ ⟨Nat.le_of_ble_eq_true rfl, Nat.le_of_ble_eq_true rfl⟩ ⟨rfl, rfl⟩ rfl (Nat.le_of_ble_eq_true rfl) ?_
    refine AR.iconst (pc := 38) (v := 0) dX7_renew_38 (by decide) ?_
    obtain ⟨r3, h3, h⟩ := bd_some h
    refine AR.callSN (pc := 39) (As := [.ref 4, .int (r2.1), .int 0]) (st := []) dX7_renew_39 ⟨cd_X8_set, sm_X8_set, ini_X8⟩ mn_X7_21 (A8_set 4 400 rfl (r2.1) 0 (r2.2) _ h3) pd_X8_set ⟨Nat.le_of_ble_eq_true rfl, Nat.le_of_ble_eq_true rfl⟩ ⟨rfl, rfl⟩ rfl (Nat.le_of_ble_eq_true rfl) ?_
    refine AR.iinc (pc := 42) (j := 2) (v := (x4 + 1)) (L2 := [(4, .int (x4 + 1)), (0, .ref 1), (1, .int x1)]) dX7_renew_42 rfl rfl (by decide) rfl ?_
    refine AR.goto (pc := 45) (tgt := 21) dX7_renew_45 (by decide) ?_
    exact AR.pick [1, 2, 0] rfl (hk21 ((x4 + 1), r3) r h)
theorem A7_renew_21 {l : Launch} (x1 : Int32) (p : Int32 × HS) (r : HS) (h : f7_renew_21 x1 p = some r) : AR l RX7 cX7_renew 5 none (wsU yX7_renew cX7_renew 5 none) rm7_renew SC 21 [(0, .ref 1), (1, .int x1), (4, .int (p.1))] [] p.2 (none, r) := by
  unfold f7_renew_21 at h
  exact wloop_run (body := fun k21 p => f7_renew_21_b k21 x1 p.1 p.2) (Q := fun p r => AR l RX7 cX7_renew 5 none (wsU yX7_renew cX7_renew 5 none) rm7_renew SC 21 [(0, .ref 1), (1, .int x1), (4, .int (p.1))] [] p.2 (none, r)) (fun k21 hk21 p r h => A7_renew_21_b k21 x1 p.1 hk21 p.2 r h) fuelN p r h
set_option maxHeartbeats 4000000 in
set_option maxRecDepth 100000 in
theorem A7_renew {l : Launch} (x1 : Int32) (x2 : Int32) (x3 : Int32) (σ : HS) (r : HS) (h : f7_renew x1 x2 x3 σ = some r) : MA l yX7_renew (wsU yX7_renew cX7_renew 5 none) rm7_renew SC [.ref 1, .int x1, .int x2, .int x3] σ (none, r) := by
  refine MA.of (L := [(0, .ref 1), (1, .int x1), (2, .int x2), (3, .int x3)]) pn_X7_renew rfl (fun _ => Nat.le_of_ble_eq_true rfl) (fun _ => rfl) ?_
  unfold f7_renew at h
  refine AR.aload_n (pc := 0) (j := 0) dX7_renew_0 rfl rfl ?_
  refine AR.getf (pc := 1) (ci := 7) (j := 0) (d := 2 + 2) (v := .ref 2) (T := TX7) dX7_renew_1 rfl rfl rfl (by decide) (fun w hw => wsU_in (uw_X7 w hw)) (wsU_in fl_X7_11) rfl ?_
  refine AR.iload_n (pc := 4) (j := 1) dX7_renew_4 rfl rfl ?_
  refine AR.iload_n (pc := 5) (j := 2) dX7_renew_5 rfl rfl ?_
  obtain ⟨r1, h1, h⟩ := bd_some h
  refine AR.callSN (pc := 6) (As := [.ref 2, .int x1, .int x2]) (st := []) dX7_renew_6 ⟨cd_X8_set, sm_X8_set, ini_X8⟩ mn_X7_21 (A8_set 2 4 rfl x1 x2 σ _ h1) pd_X8_set ⟨Nat.le_of_ble_eq_true rfl, Nat.le_of_ble_eq_true rfl⟩ ⟨rfl, rfl⟩ rfl (Nat.le_of_ble_eq_true rfl) ?_
  refine AR.aload_n (pc := 9) (j := 0) dX7_renew_9 rfl rfl ?_
  refine AR.getf (pc := 10) (ci := 7) (j := 1) (d := 3 + 2) (v := .ref 3) (T := TX7) dX7_renew_10 rfl rfl rfl (by decide) (fun w hw => wsU_in (uw_X7 w hw)) (wsU_in fl_X7_15) rfl ?_
  refine AR.iload_n (pc := 13) (j := 1) dX7_renew_13 rfl rfl ?_
  refine AR.iload_n (pc := 14) (j := 3) dX7_renew_14 rfl rfl ?_
  obtain ⟨r2, h2, h⟩ := bd_some h
  refine AR.callSN (pc := 15) (As := [.ref 3, .int x1, .int x3]) (st := []) dX7_renew_15 ⟨cd_X8_set, sm_X8_set, ini_X8⟩ mn_X7_21 (A8_set 3 4 rfl x1 x3 r1 _ h2) pd_X8_set ⟨Nat.le_of_ble_eq_true rfl, Nat.le_of_ble_eq_true rfl⟩ ⟨rfl, rfl⟩ rfl (Nat.le_of_ble_eq_true rfl) ?_
  refine AR.iconst (pc := 18) (v := 0) dX7_renew_18 (by decide) ?_
  refine AR.istore (pc := 19) (L2 := [(4, .int 0), (0, .ref 1), (1, .int x1), (2, .int x2), (3, .int x3)]) dX7_renew_19 (by decide) rfl ?_
  exact AR.pick [1, 2, 0] rfl (A7_renew_21 x1 (0, r2) r h)
noncomputable def f7_drop_13 (x1 : Int32) (z0 : Int32) (σ : HS) : Option (Int32 × HS) :=
  bd (f8_set 2 4 x1 (-1) σ) fun r1 =>
  bd (f8_set 3 4 x1 0 r1) fun r2 =>
  if (z0 : Int32) = 0 ∨ (z0 : Int32) = 1 then some (z0, r2) else none
noncomputable def f7_drop (x1 : Int32) (σ : HS) : Option (Int32 × HS) :=
  bd (f7_isEmpty x1 σ) fun r1 =>
  if (r1.1 : Int32) = 0 then
    f7_drop_13 x1 1 (r1.2)
  else
    f7_drop_13 x1 0 (r1.2)
set_option maxHeartbeats 4000000 in
set_option maxRecDepth 100000 in
theorem A7_drop_13 {l : Launch} (x1 : Int32) (z0 : Int32) (σ : HS) (r : Int32 × HS) (h : f7_drop_13 x1 z0 σ = some r) : AR l RX7 cX7_drop 3 (some .boolean) (wsU yX7_drop cX7_drop 3 (some .boolean)) rm7_drop SC 13 [(0, .ref 1), (1, .int x1)] [.int z0] σ (some (.int r.1), r.2) := by
  unfold f7_drop_13 at h
  refine AR.istore_n (pc := 13) (L2 := [(2, .int z0), (0, .ref 1), (1, .int x1)]) dX7_drop_13 rfl (by decide) rfl ?_
  refine AR.aload_n (pc := 14) (j := 1) dX7_drop_14 rfl rfl ?_
  refine AR.getf (pc := 15) (ci := 7) (j := 0) (d := 2 + 2) (v := .ref 2) (T := TX7) dX7_drop_15 rfl rfl rfl (by decide) (fun w hw => wsU_in (uw_X7 w hw)) (wsU_in fl_X7_11) rfl ?_
  refine AR.iload_n (pc := 18) (j := 2) dX7_drop_18 rfl rfl ?_
  refine AR.iconst (pc := 19) (v := (-1)) dX7_drop_19 (by decide) ?_
  obtain ⟨r1, h1, h⟩ := bd_some h
  refine AR.callSN (pc := 20) (As := [.ref 2, .int x1, .int (-1)]) (st := []) dX7_drop_20 ⟨cd_X8_set, sm_X8_set, ini_X8⟩ mn_X7_21 (A8_set 2 4 rfl x1 (-1) σ _ h1) pd_X8_set ⟨Nat.le_of_ble_eq_true rfl, Nat.le_of_ble_eq_true rfl⟩ ⟨rfl, rfl⟩ rfl (Nat.le_of_ble_eq_true rfl) ?_
  refine AR.aload_n (pc := 23) (j := 1) dX7_drop_23 rfl rfl ?_
  refine AR.getf (pc := 24) (ci := 7) (j := 1) (d := 3 + 2) (v := .ref 3) (T := TX7) dX7_drop_24 rfl rfl rfl (by decide) (fun w hw => wsU_in (uw_X7 w hw)) (wsU_in fl_X7_15) rfl ?_
  refine AR.iload_n (pc := 27) (j := 2) dX7_drop_27 rfl rfl ?_
  refine AR.iconst (pc := 28) (v := 0) dX7_drop_28 (by decide) ?_
  obtain ⟨r2, h2, h⟩ := bd_some h
  refine AR.callSN (pc := 29) (As := [.ref 3, .int x1, .int 0]) (st := []) dX7_drop_29 ⟨cd_X8_set, sm_X8_set, ini_X8⟩ mn_X7_21 (A8_set 3 4 rfl x1 0 r1 _ h2) pd_X8_set ⟨Nat.le_of_ble_eq_true rfl, Nat.le_of_ble_eq_true rfl⟩ ⟨rfl, rfl⟩ rfl (Nat.le_of_ble_eq_true rfl) ?_
  refine AR.iload_n (pc := 32) (j := 0) dX7_drop_32 rfl rfl ?_
  obtain ⟨c3, h⟩ := gp_some h
  exact AR.zret (pc := 33) rfl c3 dX7_drop_33 (hrI (Option.some.inj h))
set_option maxHeartbeats 4000000 in
set_option maxRecDepth 100000 in
theorem A7_drop {l : Launch} (x1 : Int32) (σ : HS) (r : Int32 × HS) (h : f7_drop x1 σ = some r) : MA l yX7_drop (wsU yX7_drop cX7_drop 3 (some .boolean)) rm7_drop SC [.ref 1, .int x1] σ (some (.int r.1), r.2) := by
  refine MA.of (L := [(0, .ref 1), (1, .int x1)]) pn_X7_drop rfl (fun _ => Nat.le_of_ble_eq_true rfl) (fun _ => rfl) ?_
  unfold f7_drop at h
  refine AR.aload_n (pc := 0) (j := 0) dX7_drop_0 rfl rfl ?_
  refine AR.iload_n (pc := 1) (j := 1) dX7_drop_1 rfl rfl ?_
  obtain ⟨r1, h1, h⟩ := bd_some h
  refine AR.callV (pc := 2) (As := [.int x1]) (st := []) (ci := 7) dX7_drop_2 ⟨cd_X7_isEmpty, im_X7_isEmpty, se_X7_isEmpty, ini_X7⟩ ml_X7_37 (A7_isEmpty x1 σ _ h1) ⟨rfl, pd_X7_isEmpty⟩ ⟨Nat.le_of_ble_eq_true rfl, Nat.le_of_ble_eq_true rfl⟩ ⟨rfl, rfl⟩ rfl rfl rfl (Nat.le_of_ble_eq_true rfl) ?_
  refine AR.if_ne (pc := 5) (tgt := 12) dX7_drop_5 (by decide) (fun c2 => ?_) (fun c2 => ?_)
  · replace h := ite_f c2 h
    refine AR.iconst (pc := 12) (v := 0) dX7_drop_12 (by decide) ?_
    exact AR.pick [0, 1] rfl (A7_drop_13 x1 0 (r1.2) r h)
  · replace h := ite_t c2 h
    refine AR.iconst (pc := 8) (v := 1) dX7_drop_8 (by decide) ?_
    refine AR.goto (pc := 9) (tgt := 13) dX7_drop_9 (by decide) ?_
    exact AR.pick [0, 1] rfl (A7_drop_13 x1 1 (r1.2) r h)
noncomputable def f7_cutTo (x0 : Int32) (x1 : Int32) (σ : HS) : Option (Int32 × HS) :=
  if (x0 : Int32) = 0 then
    some ((x1 : Int32).toInt8.toInt32, σ)
  else
    if (x0 : Int32) = 1 then
      some ((x1 : Int32).toInt16.toInt32, σ)
    else
      some (x1, σ)
set_option maxHeartbeats 4000000 in
set_option maxRecDepth 100000 in
theorem A7_cutTo {l : Launch} (x0 : Int32) (x1 : Int32) (σ : HS) (r : Int32 × HS) (h : f7_cutTo x0 x1 σ = some r) : MA l yX7_cutTo (wsU yX7_cutTo cX7_cutTo 2 (some .int)) rm7_cutTo SC [.int x0, .int x1] σ (some (.int r.1), r.2) := by
  refine MA.of (L := [(0, .int x0), (1, .int x1)]) pn_X7_cutTo rfl (fun _ => Nat.le_of_ble_eq_true rfl) (fun _ => rfl) ?_
  unfold f7_cutTo at h
  refine AR.iload_n (pc := 0) (j := 0) dX7_cutTo_0 rfl rfl ?_
  refine AR.if_ne (pc := 1) (tgt := 7) dX7_cutTo_1 (by decide) (fun c1 => ?_) (fun c1 => ?_)
  · replace h := ite_f c1 h
    refine AR.iload_n (pc := 7) (j := 0) dX7_cutTo_7 rfl rfl ?_
    refine AR.iconst (pc := 8) (v := 1) dX7_cutTo_8 (by decide) ?_
    refine AR.icmp_ne (pc := 9) (tgt := 17) dX7_cutTo_9 (by decide) (fun c2 => ?_) (fun c2 => ?_)
    · replace h := ite_f c2 h
      refine AR.iload_n (pc := 17) (j := 1) dX7_cutTo_17 rfl rfl ?_
      exact AR.iret (pc := 18) rfl dX7_cutTo_18 (hrI (Option.some.inj h))
    · replace h := ite_t c2 h
      refine AR.iload_n (pc := 12) (j := 1) dX7_cutTo_12 rfl rfl ?_
      refine AR.i2s (pc := 13) dX7_cutTo_13 ?_
      refine AR.goto (pc := 14) (tgt := 18) dX7_cutTo_14 (by decide) ?_
      exact AR.iret (pc := 18) rfl dX7_cutTo_18 (hrI (Option.some.inj h))
  · replace h := ite_t c1 h
    refine AR.iload_n (pc := 4) (j := 1) dX7_cutTo_4 rfl rfl ?_
    refine AR.i2b (pc := 5) dX7_cutTo_5 ?_
    exact AR.iret (pc := 6) rfl dX7_cutTo_6 (hrI (Option.some.inj h))
noncomputable def f7_store (x1 : Int32) (x2 : Int32) (x3 : Int32) (σ : HS) : Option (HS) :=
  bd (f7_placeOf x1 x2 σ) fun r1 =>
  bd (f7_laneOf x1 (r1.2)) fun r2 =>
  bd (f7_cutTo (r2.1) x3 (r2.2)) fun r3 =>
  bd (f8_set 4 400 (r1.1) (r3.1) (r3.2)) fun r4 =>
  some r4
set_option maxHeartbeats 4000000 in
set_option maxRecDepth 100000 in
theorem A7_store {l : Launch} (x1 : Int32) (x2 : Int32) (x3 : Int32) (σ : HS) (r : HS) (h : f7_store x1 x2 x3 σ = some r) : MA l yX7_store (wsU yX7_store cX7_store 4 none) rm7_store SC [.ref 1, .int x1, .int x2, .int x3] σ (none, r) := by
  refine MA.of (L := [(0, .ref 1), (1, .int x1), (2, .int x2), (3, .int x3)]) pn_X7_store rfl (fun _ => Nat.le_of_ble_eq_true rfl) (fun _ => rfl) ?_
  unfold f7_store at h
  refine AR.aload_n (pc := 0) (j := 0) dX7_store_0 rfl rfl ?_
  refine AR.getf (pc := 1) (ci := 7) (j := 2) (d := 4 + 2) (v := .ref 4) (T := TX7) dX7_store_1 rfl rfl rfl (by decide) (fun w hw => wsU_in (uw_X7 w hw)) (wsU_in fl_X7_18) rfl ?_
  refine AR.iload_n (pc := 4) (j := 1) dX7_store_4 rfl rfl ?_
  refine AR.iload_n (pc := 5) (j := 2) dX7_store_5 rfl rfl ?_
  obtain ⟨r1, h1, h⟩ := bd_some h
  refine AR.callS (pc := 6) (As := [.int x1, .int x2]) (st := [.ref 4]) dX7_store_6 ⟨cd_X7_placeOf, sm_X7_placeOf, ini_X7⟩ ml_X7_33 (A7_placeOf x1 x2 σ _ h1) ⟨rfl, pd_X7_placeOf⟩ ⟨Nat.le_of_ble_eq_true rfl, Nat.le_of_ble_eq_true rfl⟩ ⟨rfl, rfl⟩ rfl (Nat.le_of_ble_eq_true rfl) ?_
  refine AR.aload_n (pc := 9) (j := 0) dX7_store_9 rfl rfl ?_
  refine AR.iload_n (pc := 10) (j := 1) dX7_store_10 rfl rfl ?_
  obtain ⟨r2, h2, h⟩ := bd_some h
  refine AR.callV (pc := 11) (As := [.int x1]) (st := [.int (r1.1), .ref 4]) (ci := 7) dX7_store_11 ⟨cd_X7_laneOf, im_X7_laneOf, se_X7_laneOf, ini_X7⟩ ml_X7_29 (A7_laneOf x1 (r1.2) _ h2) ⟨rfl, pd_X7_laneOf⟩ ⟨Nat.le_of_ble_eq_true rfl, Nat.le_of_ble_eq_true rfl⟩ ⟨rfl, rfl⟩ rfl rfl rfl (Nat.le_of_ble_eq_true rfl) ?_
  refine AR.iload_n (pc := 14) (j := 3) dX7_store_14 rfl rfl ?_
  obtain ⟨r3, h3, h⟩ := bd_some h
  refine AR.callS (pc := 15) (As := [.int (r2.1), .int x3]) (st := [.int (r1.1), .ref 4]) dX7_store_15 ⟨cd_X7_cutTo, sm_X7_cutTo, ini_X7⟩ ml_X7_41 (A7_cutTo (r2.1) x3 (r2.2) _ h3) ⟨rfl, pd_X7_cutTo⟩ ⟨Nat.le_of_ble_eq_true rfl, Nat.le_of_ble_eq_true rfl⟩ ⟨rfl, rfl⟩ rfl (Nat.le_of_ble_eq_true rfl) ?_
  obtain ⟨r4, h4, h⟩ := bd_some h
  refine AR.callSN (pc := 18) (As := [.ref 4, .int (r1.1), .int (r3.1)]) (st := []) dX7_store_18 ⟨cd_X8_set, sm_X8_set, ini_X8⟩ mn_X7_21 (A8_set 4 400 rfl (r1.1) (r3.1) (r3.2) _ h4) pd_X8_set ⟨Nat.le_of_ble_eq_true rfl, Nat.le_of_ble_eq_true rfl⟩ ⟨rfl, rfl⟩ rfl (Nat.le_of_ble_eq_true rfl) ?_
  exact AR.vret (pc := 21) rfl dX7_store_21 (hrV (Option.some.inj h))
noncomputable def f7_move_47 (k16 : Int32 × HS → Option (HS)) (x1 : Int32) (x2 : Int32) (x3 : Int32) (x4 : Int32) (x5 : Int32) (x6 : Int32) (x7 : Int32) (z0 : Int32) (σ : HS) : Option (HS) :=
  bd (f7_placeOf x3 (x4 + z0) σ) fun r1 =>
  bd (f7_valueAt x1 (x2 + z0) (r1.2)) fun r2 =>
  bd (f8_set 4 400 (r1.1) (r2.1) (r2.2)) fun r3 =>
  k16 ((x7 + 1), r3)
noncomputable def f7_move_16_b (k16 : Int32 × HS → Option (HS)) (x1 : Int32) (x2 : Int32) (x3 : Int32) (x4 : Int32) (x5 : Int32) (x6 : Int32) (x7 : Int32) (σ : HS) : Option (HS) :=
  if (x5 : Int32) ≤ x7 then
    some σ
  else
    if (100 : Int32) ≤ x7 then
      some σ
    else
      if (x6 : Int32) = 0 then
        f7_move_47 k16 x1 x2 x3 x4 x5 x6 x7 x7 σ
      else
        f7_move_47 k16 x1 x2 x3 x4 x5 x6 x7 ((x5 - 1) - x7) σ
noncomputable def f7_move_16 (x1 : Int32) (x2 : Int32) (x3 : Int32) (x4 : Int32) (x5 : Int32) (x6 : Int32) (p : Int32 × HS) : Option (HS) :=
  wloop (fun k16 p => f7_move_16_b k16 x1 x2 x3 x4 x5 x6 p.1 p.2) fuelN p
noncomputable def f7_move_11 (x1 : Int32) (x2 : Int32) (x3 : Int32) (x4 : Int32) (x5 : Int32) (z0 : Int32) (σ : HS) : Option (HS) :=
  f7_move_16 x1 x2 x3 x4 x5 z0 (0, σ)
noncomputable def f7_move (x1 : Int32) (x2 : Int32) (x3 : Int32) (x4 : Int32) (x5 : Int32) (σ : HS) : Option (HS) :=
  if (x4 : Int32) ≤ x2 then
    f7_move_11 x1 x2 x3 x4 x5 0 σ
  else
    f7_move_11 x1 x2 x3 x4 x5 1 σ
set_option maxHeartbeats 4000000 in
set_option maxRecDepth 100000 in
theorem A7_move_47 {l : Launch} (k16 : Int32 × HS → Option (HS)) (x1 : Int32) (x2 : Int32) (x3 : Int32) (x4 : Int32) (x5 : Int32) (x6 : Int32) (x7 : Int32) (z0 : Int32) (hk16 : ∀ (p : Int32 × HS) (r : HS), k16 p = some r → AR l RX7 cX7_move 9 none (wsU yX7_move cX7_move 9 none) rm7_move SC 16 [(0, .ref 1), (1, .int x1), (2, .int x2), (3, .int x3), (4, .int x4), (5, .int x5), (6, .int x6), (7, .int (p.1))] [] p.2 (none, r)) (σ : HS) (r : HS) (h : f7_move_47 k16 x1 x2 x3 x4 x5 x6 x7 z0 σ = some r) : AR l RX7 cX7_move 9 none (wsU yX7_move cX7_move 9 none) rm7_move SC 47 [(0, .ref 1), (1, .int x1), (2, .int x2), (3, .int x3), (4, .int x4), (5, .int x5), (6, .int x6), (7, .int x7)] [.int z0] σ (none, r) := by
  unfold f7_move_47 at h
  refine AR.istore (pc := 47) (L2 := [(8, .int z0), (0, .ref 1), (1, .int x1), (2, .int x2), (3, .int x3), (4, .int x4), (5, .int x5), (6, .int x6), (7, .int x7)]) dX7_move_47 (by decide) rfl ?_
  refine AR.aload_n (pc := 49) (j := 1) dX7_move_49 rfl rfl ?_
  refine AR.getf (pc := 50) (ci := 7) (j := 2) (d := 4 + 2) (v := .ref 4) (T := TX7) dX7_move_50 rfl rfl rfl (by decide) (fun w hw => wsU_in (uw_X7 w hw)) (wsU_in fl_X7_18) rfl ?_
  refine AR.iload_n (pc := 53) (j := 4) dX7_move_53 rfl rfl ?_
  refine AR.iload (pc := 54) (j := 5) dX7_move_54 rfl ?_
  refine AR.iload (pc := 56) (j := 0) dX7_move_56 rfl ?_
  refine AR.iadd (pc := 58) dX7_move_58 ?_
  obtain ⟨r1, h1, h⟩ := bd_some h
  refine AR.callS (pc := 59) (As := [.int x3, .int (x4 + z0)]) (st := [.ref 4]) dX7_move_59 ⟨cd_X7_placeOf, sm_X7_placeOf, ini_X7⟩ ml_X7_33 (A7_placeOf x3 (x4 + z0) σ _ h1) ⟨rfl, pd_X7_placeOf⟩ ⟨Nat.le_of_ble_eq_true rfl, Nat.le_of_ble_eq_true rfl⟩ ⟨rfl, rfl⟩ rfl (Nat.le_of_ble_eq_true rfl) ?_
  refine AR.aload_n (pc := 62) (j := 1) dX7_move_62 rfl rfl ?_
  refine AR.iload_n (pc := 63) (j := 2) dX7_move_63 rfl rfl ?_
  refine AR.iload_n (pc := 64) (j := 3) dX7_move_64 rfl rfl ?_
  refine AR.iload (pc := 65) (j := 0) dX7_move_65 rfl ?_
  refine AR.iadd (pc := 67) dX7_move_67 ?_
  obtain ⟨r2, h2, h⟩ := bd_some h
  refine AR.callV (pc := 68) (As := [.int x1, .int (x2 + z0)]) (st := [.int (r1.1), .ref 4]) (ci := 7) dX7_move_68 ⟨cd_X7_valueAt, im_X7_valueAt, se_X7_valueAt, ini_X7⟩ ml_X7_44 (A7_valueAt x1 (x2 + z0) (r1.2) _ h2) ⟨rfl, pd_X7_valueAt⟩ ⟨Nat.le_of_ble_eq_true rfl, Nat.le_of_ble_eq_true rfl⟩ ⟨rfl, rfl⟩ rfl rfl rfl (Nat.le_of_ble_eq_true rfl) ?_
  obtain ⟨r3, h3, h⟩ := bd_some h
  refine AR.callSN (pc := 71) (As := [.ref 4, .int (r1.1), .int (r2.1)]) (st := []) dX7_move_71 ⟨cd_X8_set, sm_X8_set, ini_X8⟩ mn_X7_21 (A8_set 4 400 rfl (r1.1) (r2.1) (r2.2) _ h3) pd_X8_set ⟨Nat.le_of_ble_eq_true rfl, Nat.le_of_ble_eq_true rfl⟩ ⟨rfl, rfl⟩ rfl (Nat.le_of_ble_eq_true rfl) ?_
  refine AR.iinc (pc := 74) (j := 8) (v := (x7 + 1)) (L2 := [(7, .int (x7 + 1)), (8, .int z0), (0, .ref 1), (1, .int x1), (2, .int x2), (3, .int x3), (4, .int x4), (5, .int x5), (6, .int x6)]) dX7_move_74 rfl rfl (by decide) rfl ?_
  refine AR.goto (pc := 77) (tgt := 16) dX7_move_77 (by decide) ?_
  exact AR.pick [2, 3, 4, 5, 6, 7, 8, 0] rfl (hk16 ((x7 + 1), r3) r h)
set_option maxHeartbeats 4000000 in
set_option maxRecDepth 100000 in
theorem A7_move_16_b {l : Launch} (k16 : Int32 × HS → Option (HS)) (x1 : Int32) (x2 : Int32) (x3 : Int32) (x4 : Int32) (x5 : Int32) (x6 : Int32) (x7 : Int32) (hk16 : ∀ (p : Int32 × HS) (r : HS), k16 p = some r → AR l RX7 cX7_move 9 none (wsU yX7_move cX7_move 9 none) rm7_move SC 16 [(0, .ref 1), (1, .int x1), (2, .int x2), (3, .int x3), (4, .int x4), (5, .int x5), (6, .int x6), (7, .int (p.1))] [] p.2 (none, r)) (σ : HS) (r : HS) (h : f7_move_16_b k16 x1 x2 x3 x4 x5 x6 x7 σ = some r) : AR l RX7 cX7_move 9 none (wsU yX7_move cX7_move 9 none) rm7_move SC 16 [(0, .ref 1), (1, .int x1), (2, .int x2), (3, .int x3), (4, .int x4), (5, .int x5), (6, .int x6), (7, .int x7)] [] σ (none, r) := by
  unfold f7_move_16_b at h
  refine AR.iload (pc := 16) (j := 7) dX7_move_16 rfl ?_
  refine AR.iload (pc := 18) (j := 5) dX7_move_18 rfl ?_
  refine AR.icmp_ge (pc := 20) (tgt := 80) dX7_move_20 (by decide) (fun c1 => ?_) (fun c1 => ?_)
  · replace h := ite_t c1 h
    exact AR.vret (pc := 80) rfl dX7_move_80 (hrV (Option.some.inj h))
  · replace h := ite_f c1 h
    refine AR.iload (pc := 23) (j := 7) dX7_move_23 rfl ?_
    refine AR.bipush (pc := 25) (v := 100) dX7_move_25 (by decide) ?_
    refine AR.icmp_ge (pc := 27) (tgt := 80) dX7_move_27 (by decide) (fun c2 => ?_) (fun c2 => ?_)
    · replace h := ite_t c2 h
      exact AR.vret (pc := 80) rfl dX7_move_80 (hrV (Option.some.inj h))
    · replace h := ite_f c2 h
      refine AR.iload (pc := 30) (j := 6) dX7_move_30 rfl ?_
      refine AR.if_eq (pc := 32) (tgt := 45) dX7_move_32 (by decide) (fun c3 => ?_) (fun c3 => ?_)
      · replace h := ite_t c3 h
        refine AR.iload (pc := 45) (j := 7) dX7_move_45 rfl ?_
        exact AR.pick [0, 1, 2, 3, 4, 5, 6, 7] rfl (A7_move_47 k16 x1 x2 x3 x4 x5 x6 x7 x7 hk16 σ r h)
      · replace h := ite_f c3 h
        refine AR.iload (pc := 35) (j := 5) dX7_move_35 rfl ?_
        refine AR.iconst (pc := 37) (v := 1) dX7_move_37 (by decide) ?_
        refine AR.isub (pc := 38) dX7_move_38 ?_
        refine AR.iload (pc := 39) (j := 7) dX7_move_39 rfl ?_
        refine AR.isub (pc := 41) dX7_move_41 ?_
        refine AR.goto (pc := 42) (tgt := 47) dX7_move_42 (by decide) ?_
        exact AR.pick [0, 1, 2, 3, 4, 5, 6, 7] rfl (A7_move_47 k16 x1 x2 x3 x4 x5 x6 x7 ((x5 - 1) - x7) hk16 σ r h)
theorem A7_move_16 {l : Launch} (x1 : Int32) (x2 : Int32) (x3 : Int32) (x4 : Int32) (x5 : Int32) (x6 : Int32) (p : Int32 × HS) (r : HS) (h : f7_move_16 x1 x2 x3 x4 x5 x6 p = some r) : AR l RX7 cX7_move 9 none (wsU yX7_move cX7_move 9 none) rm7_move SC 16 [(0, .ref 1), (1, .int x1), (2, .int x2), (3, .int x3), (4, .int x4), (5, .int x5), (6, .int x6), (7, .int (p.1))] [] p.2 (none, r) := by
  unfold f7_move_16 at h
  exact wloop_run (body := fun k16 p => f7_move_16_b k16 x1 x2 x3 x4 x5 x6 p.1 p.2) (Q := fun p r => AR l RX7 cX7_move 9 none (wsU yX7_move cX7_move 9 none) rm7_move SC 16 [(0, .ref 1), (1, .int x1), (2, .int x2), (3, .int x3), (4, .int x4), (5, .int x5), (6, .int x6), (7, .int (p.1))] [] p.2 (none, r)) (fun k16 hk16 p r h => A7_move_16_b k16 x1 x2 x3 x4 x5 x6 p.1 hk16 p.2 r h) fuelN p r h
set_option maxHeartbeats 4000000 in
set_option maxRecDepth 100000 in
theorem A7_move_11 {l : Launch} (x1 : Int32) (x2 : Int32) (x3 : Int32) (x4 : Int32) (x5 : Int32) (z0 : Int32) (σ : HS) (r : HS) (h : f7_move_11 x1 x2 x3 x4 x5 z0 σ = some r) : AR l RX7 cX7_move 9 none (wsU yX7_move cX7_move 9 none) rm7_move SC 11 [(0, .ref 1), (1, .int x1), (2, .int x2), (3, .int x3), (4, .int x4), (5, .int x5)] [.int z0] σ (none, r) := by
  unfold f7_move_11 at h
  refine AR.istore (pc := 11) (L2 := [(6, .int z0), (0, .ref 1), (1, .int x1), (2, .int x2), (3, .int x3), (4, .int x4), (5, .int x5)]) dX7_move_11 (by decide) rfl ?_
  refine AR.iconst (pc := 13) (v := 0) dX7_move_13 (by decide) ?_
  refine AR.istore (pc := 14) (L2 := [(7, .int 0), (6, .int z0), (0, .ref 1), (1, .int x1), (2, .int x2), (3, .int x3), (4, .int x4), (5, .int x5)]) dX7_move_14 (by decide) rfl ?_
  exact AR.pick [2, 3, 4, 5, 6, 7, 1, 0] rfl (A7_move_16 x1 x2 x3 x4 x5 z0 (0, σ) r h)
set_option maxHeartbeats 4000000 in
set_option maxRecDepth 100000 in
theorem A7_move {l : Launch} (x1 : Int32) (x2 : Int32) (x3 : Int32) (x4 : Int32) (x5 : Int32) (σ : HS) (r : HS) (h : f7_move x1 x2 x3 x4 x5 σ = some r) : MA l yX7_move (wsU yX7_move cX7_move 9 none) rm7_move SC [.ref 1, .int x1, .int x2, .int x3, .int x4, .int x5] σ (none, r) := by
  refine MA.of (L := [(0, .ref 1), (1, .int x1), (2, .int x2), (3, .int x3), (4, .int x4), (5, .int x5)]) pn_X7_move rfl (fun _ => Nat.le_of_ble_eq_true rfl) (fun _ => rfl) ?_
  unfold f7_move at h
  refine AR.iload (pc := 0) (j := 4) dX7_move_0 rfl ?_
  refine AR.iload_n (pc := 2) (j := 2) dX7_move_2 rfl rfl ?_
  refine AR.icmp_le (pc := 3) (tgt := 10) dX7_move_3 (by decide) (fun c1 => ?_) (fun c1 => ?_)
  · replace h := ite_t c1 h
    refine AR.iconst (pc := 10) (v := 0) dX7_move_10 (by decide) ?_
    exact AR.pick [0, 1, 2, 3, 4, 5] rfl (A7_move_11 x1 x2 x3 x4 x5 0 σ r h)
  · replace h := ite_f c1 h
    refine AR.iconst (pc := 6) (v := 1) dX7_move_6 (by decide) ?_
    refine AR.goto (pc := 7) (tgt := 11) dX7_move_7 (by decide) ?_
    exact AR.pick [0, 1, 2, 3, 4, 5] rfl (A7_move_11 x1 x2 x3 x4 x5 1 σ r h)
noncomputable def f7_hasPart_28 (σ : HS) : Option (Int32 × HS) :=
  some (0, σ)
noncomputable def f7_hasPart (x1 : Int32) (x2 : Int32) (x3 : Int32) (σ : HS) : Option (Int32 × HS) :=
  if (x2 : Int32) < 0 then
    f7_hasPart_28 σ
  else
    bd (f7_sizeOf x1 σ) fun r2 =>
    if (r2.1 : Int32) < x2 then
      f7_hasPart_28 (r2.2)
    else
      bd (f7_sizeOf x1 (r2.2)) fun r4 =>
      if (((r4.1) - x2) : Int32) < x3 then
        f7_hasPart_28 (r4.2)
      else
        some (1, r4.2)
set_option maxHeartbeats 4000000 in
set_option maxRecDepth 100000 in
theorem A7_hasPart_28 {l : Launch} (σ : HS) (r : Int32 × HS) (h : f7_hasPart_28 σ = some r) : AR l RX7 cX7_hasPart 4 (some .boolean) (wsU yX7_hasPart cX7_hasPart 4 (some .boolean)) rm7_hasPart SC 28 [] [] σ (some (.int r.1), r.2) := by
  unfold f7_hasPart_28 at h
  refine AR.iconst (pc := 28) (v := 0) dX7_hasPart_28 (by decide) ?_
  exact AR.zret (pc := 29) rfl (Or.inl rfl) dX7_hasPart_29 (hrI (Option.some.inj h))
set_option maxHeartbeats 4000000 in
set_option maxRecDepth 100000 in
theorem A7_hasPart {l : Launch} (x1 : Int32) (x2 : Int32) (x3 : Int32) (σ : HS) (r : Int32 × HS) (h : f7_hasPart x1 x2 x3 σ = some r) : MA l yX7_hasPart (wsU yX7_hasPart cX7_hasPart 4 (some .boolean)) rm7_hasPart SC [.ref 1, .int x1, .int x2, .int x3] σ (some (.int r.1), r.2) := by
  refine MA.of (L := [(0, .ref 1), (1, .int x1), (2, .int x2), (3, .int x3)]) pn_X7_hasPart rfl (fun _ => Nat.le_of_ble_eq_true rfl) (fun _ => rfl) ?_
  unfold f7_hasPart at h
  refine AR.iload_n (pc := 0) (j := 2) dX7_hasPart_0 rfl rfl ?_
  refine AR.if_lt (pc := 1) (tgt := 28) dX7_hasPart_1 (by decide) (fun c1 => ?_) (fun c1 => ?_)
  · replace h := ite_t c1 h
    exact AR.pick [] rfl (A7_hasPart_28 σ r h)
  · replace h := ite_f c1 h
    refine AR.iload_n (pc := 4) (j := 2) dX7_hasPart_4 rfl rfl ?_
    refine AR.aload_n (pc := 5) (j := 0) dX7_hasPart_5 rfl rfl ?_
    refine AR.iload_n (pc := 6) (j := 1) dX7_hasPart_6 rfl rfl ?_
    obtain ⟨r2, h2, h⟩ := bd_some h
    refine AR.callV (pc := 7) (As := [.int x1]) (st := [.int x2]) (ci := 7) dX7_hasPart_7 ⟨cd_X7_sizeOf, im_X7_sizeOf, se_X7_sizeOf, ini_X7⟩ ml_X7_47 (A7_sizeOf x1 σ _ h2) ⟨rfl, pd_X7_sizeOf⟩ ⟨Nat.le_of_ble_eq_true rfl, Nat.le_of_ble_eq_true rfl⟩ ⟨rfl, rfl⟩ rfl rfl rfl (Nat.le_of_ble_eq_true rfl) ?_
    refine AR.icmp_gt (pc := 10) (tgt := 28) dX7_hasPart_10 (by decide) (fun c3 => ?_) (fun c3 => ?_)
    · replace h := ite_t c3 h
      exact AR.pick [] rfl (A7_hasPart_28 (r2.2) r h)
    · replace h := ite_f c3 h
      refine AR.iload_n (pc := 13) (j := 3) dX7_hasPart_13 rfl rfl ?_
      refine AR.aload_n (pc := 14) (j := 0) dX7_hasPart_14 rfl rfl ?_
      refine AR.iload_n (pc := 15) (j := 1) dX7_hasPart_15 rfl rfl ?_
      obtain ⟨r4, h4, h⟩ := bd_some h
      refine AR.callV (pc := 16) (As := [.int x1]) (st := [.int x3]) (ci := 7) dX7_hasPart_16 ⟨cd_X7_sizeOf, im_X7_sizeOf, se_X7_sizeOf, ini_X7⟩ ml_X7_47 (A7_sizeOf x1 (r2.2) _ h4) ⟨rfl, pd_X7_sizeOf⟩ ⟨Nat.le_of_ble_eq_true rfl, Nat.le_of_ble_eq_true rfl⟩ ⟨rfl, rfl⟩ rfl rfl rfl (Nat.le_of_ble_eq_true rfl) ?_
      refine AR.iload_n (pc := 19) (j := 2) dX7_hasPart_19 rfl rfl ?_
      refine AR.isub (pc := 20) dX7_hasPart_20 ?_
      refine AR.icmp_gt (pc := 21) (tgt := 28) dX7_hasPart_21 (by decide) (fun c5 => ?_) (fun c5 => ?_)
      · replace h := ite_t c5 h
        exact AR.pick [] rfl (A7_hasPart_28 (r4.2) r h)
      · replace h := ite_f c5 h
        refine AR.iconst (pc := 24) (v := 1) dX7_hasPart_24 (by decide) ?_
        refine AR.goto (pc := 25) (tgt := 29) dX7_hasPart_25 (by decide) ?_
        exact AR.zret (pc := 29) rfl (Or.inr rfl) dX7_hasPart_29 (hrI (Option.some.inj h))
noncomputable def f7_rowRefusal (x1 : Int32) (x2 : Int32) (σ : HS) : Option (Int32 × HS) :=
  bd (f7_isSheet x1 σ) fun r1 =>
  if (r1.1 : Int32) = 0 then
    some ((-1), r1.2)
  else
    bd (f7_isLane x2 (r1.2)) fun r3 =>
    if (r3.1 : Int32) = 0 then
      some ((-2), r3.2)
    else
      bd (f7_isEmpty x1 (r3.2)) fun r5 =>
      if (r5.1 : Int32) = 0 then
        bd (f7_laneOf x1 (r5.2)) fun r7 =>
        if (r7.1 : Int32) = x2 then
          some (0, r7.2)
        else
          some ((-12), r7.2)
      else
        some ((-11), r5.2)
set_option maxHeartbeats 4000000 in
set_option maxRecDepth 100000 in
theorem A7_rowRefusal {l : Launch} (x1 : Int32) (x2 : Int32) (σ : HS) (r : Int32 × HS) (h : f7_rowRefusal x1 x2 σ = some r) : MA l yX7_rowRefusal (wsU yX7_rowRefusal cX7_rowRefusal 3 (some .int)) rm7_rowRefusal SC [.ref 1, .int x1, .int x2] σ (some (.int r.1), r.2) := by
  refine MA.of (L := [(0, .ref 1), (1, .int x1), (2, .int x2)]) pn_X7_rowRefusal rfl (fun _ => Nat.le_of_ble_eq_true rfl) (fun _ => rfl) ?_
  unfold f7_rowRefusal at h
  refine AR.iload_n (pc := 0) (j := 1) dX7_rowRefusal_0 rfl rfl ?_
  obtain ⟨r1, h1, h⟩ := bd_some h
  refine AR.callS (pc := 1) (As := [.int x1]) (st := []) dX7_rowRefusal_1 ⟨cd_X7_isSheet, sm_X7_isSheet, ini_X7⟩ ml_X7_50 (A7_isSheet x1 σ _ h1) ⟨rfl, pd_X7_isSheet⟩ ⟨Nat.le_of_ble_eq_true rfl, Nat.le_of_ble_eq_true rfl⟩ ⟨rfl, rfl⟩ rfl (Nat.le_of_ble_eq_true rfl) ?_
  refine AR.if_ne (pc := 4) (tgt := 9) dX7_rowRefusal_4 (by decide) (fun c2 => ?_) (fun c2 => ?_)
  · replace h := ite_f c2 h
    refine AR.iload_n (pc := 9) (j := 2) dX7_rowRefusal_9 rfl rfl ?_
    obtain ⟨r3, h3, h⟩ := bd_some h
    refine AR.callS (pc := 10) (As := [.int x2]) (st := []) dX7_rowRefusal_10 ⟨cd_X7_isLane, sm_X7_isLane, ini_X7⟩ ml_X7_53 (A7_isLane x2 (r1.2) _ h3) ⟨rfl, pd_X7_isLane⟩ ⟨Nat.le_of_ble_eq_true rfl, Nat.le_of_ble_eq_true rfl⟩ ⟨rfl, rfl⟩ rfl (Nat.le_of_ble_eq_true rfl) ?_
    refine AR.if_ne (pc := 13) (tgt := 19) dX7_rowRefusal_13 (by decide) (fun c4 => ?_) (fun c4 => ?_)
    · replace h := ite_f c4 h
      refine AR.aload_n (pc := 19) (j := 0) dX7_rowRefusal_19 rfl rfl ?_
      refine AR.iload_n (pc := 20) (j := 1) dX7_rowRefusal_20 rfl rfl ?_
      obtain ⟨r5, h5, h⟩ := bd_some h
      refine AR.callV (pc := 21) (As := [.int x1]) (st := []) (ci := 7) dX7_rowRefusal_21 ⟨cd_X7_isEmpty, im_X7_isEmpty, se_X7_isEmpty, ini_X7⟩ ml_X7_37 (A7_isEmpty x1 (r3.2) _ h5) ⟨rfl, pd_X7_isEmpty⟩ ⟨Nat.le_of_ble_eq_true rfl, Nat.le_of_ble_eq_true rfl⟩ ⟨rfl, rfl⟩ rfl rfl rfl (Nat.le_of_ble_eq_true rfl) ?_
      refine AR.if_eq (pc := 24) (tgt := 30) dX7_rowRefusal_24 (by decide) (fun c6 => ?_) (fun c6 => ?_)
      · replace h := ite_t c6 h
        refine AR.aload_n (pc := 30) (j := 0) dX7_rowRefusal_30 rfl rfl ?_
        refine AR.iload_n (pc := 31) (j := 1) dX7_rowRefusal_31 rfl rfl ?_
        obtain ⟨r7, h7, h⟩ := bd_some h
        refine AR.callV (pc := 32) (As := [.int x1]) (st := []) (ci := 7) dX7_rowRefusal_32 ⟨cd_X7_laneOf, im_X7_laneOf, se_X7_laneOf, ini_X7⟩ ml_X7_29 (A7_laneOf x1 (r5.2) _ h7) ⟨rfl, pd_X7_laneOf⟩ ⟨Nat.le_of_ble_eq_true rfl, Nat.le_of_ble_eq_true rfl⟩ ⟨rfl, rfl⟩ rfl rfl rfl (Nat.le_of_ble_eq_true rfl) ?_
        refine AR.iload_n (pc := 35) (j := 2) dX7_rowRefusal_35 rfl rfl ?_
        refine AR.icmp_ne (pc := 36) (tgt := 43) dX7_rowRefusal_36 (by decide) (fun c8 => ?_) (fun c8 => ?_)
        · replace h := ite_f c8 h
          refine AR.bipush (pc := 43) (v := (-12)) dX7_rowRefusal_43 (by decide) ?_
          exact AR.iret (pc := 45) rfl dX7_rowRefusal_45 (hrI (Option.some.inj h))
        · replace h := ite_t c8 h
          refine AR.iconst (pc := 39) (v := 0) dX7_rowRefusal_39 (by decide) ?_
          refine AR.goto (pc := 40) (tgt := 45) dX7_rowRefusal_40 (by decide) ?_
          exact AR.iret (pc := 45) rfl dX7_rowRefusal_45 (hrI (Option.some.inj h))
      · replace h := ite_f c6 h
        refine AR.bipush (pc := 27) (v := (-11)) dX7_rowRefusal_27 (by decide) ?_
        exact AR.iret (pc := 29) rfl dX7_rowRefusal_29 (hrI (Option.some.inj h))
    · replace h := ite_t c4 h
      refine AR.bipush (pc := 16) (v := (-2)) dX7_rowRefusal_16 (by decide) ?_
      exact AR.iret (pc := 18) rfl dX7_rowRefusal_18 (hrI (Option.some.inj h))
  · replace h := ite_t c2 h
    refine AR.iconst (pc := 7) (v := (-1)) dX7_rowRefusal_7 (by decide) ?_
    exact AR.iret (pc := 8) rfl dX7_rowRefusal_8 (hrI (Option.some.inj h))
noncomputable def f7_partRefusal (x1 : Int32) (x2 : Int32) (x3 : Int32) (x4 : Int32) (σ : HS) : Option (Int32 × HS) :=
  bd (f7_rowRefusal x1 x2 σ) fun r1 =>
  if (r1.1 : Int32) = 0 then
    if 0 ≤ (x4 : Int32) then
      bd (f7_hasPart x1 x3 x4 (r1.2)) fun r4 =>
      if (r4.1 : Int32) = 0 then
        some ((-13), r4.2)
      else
        some (0, r4.2)
    else
      some ((-14), r1.2)
  else
    some (r1.1, r1.2)
set_option maxHeartbeats 4000000 in
set_option maxRecDepth 100000 in
theorem A7_partRefusal {l : Launch} (x1 : Int32) (x2 : Int32) (x3 : Int32) (x4 : Int32) (σ : HS) (r : Int32 × HS) (h : f7_partRefusal x1 x2 x3 x4 σ = some r) : MA l yX7_partRefusal (wsU yX7_partRefusal cX7_partRefusal 6 (some .int)) rm7_partRefusal SC [.ref 1, .int x1, .int x2, .int x3, .int x4] σ (some (.int r.1), r.2) := by
  refine MA.of (L := [(0, .ref 1), (1, .int x1), (2, .int x2), (3, .int x3), (4, .int x4)]) pn_X7_partRefusal rfl (fun _ => Nat.le_of_ble_eq_true rfl) (fun _ => rfl) ?_
  unfold f7_partRefusal at h
  refine AR.aload_n (pc := 0) (j := 0) dX7_partRefusal_0 rfl rfl ?_
  refine AR.iload_n (pc := 1) (j := 1) dX7_partRefusal_1 rfl rfl ?_
  refine AR.iload_n (pc := 2) (j := 2) dX7_partRefusal_2 rfl rfl ?_
  obtain ⟨r1, h1, h⟩ := bd_some h
  refine AR.callV (pc := 3) (As := [.int x1, .int x2]) (st := []) (ci := 7) dX7_partRefusal_3 ⟨cd_X7_rowRefusal, im_X7_rowRefusal, se_X7_rowRefusal, ini_X7⟩ ml_X7_56 (A7_rowRefusal x1 x2 σ _ h1) ⟨rfl, pd_X7_rowRefusal⟩ ⟨Nat.le_of_ble_eq_true rfl, Nat.le_of_ble_eq_true rfl⟩ ⟨rfl, rfl⟩ rfl rfl rfl (Nat.le_of_ble_eq_true rfl) ?_
  refine AR.istore (pc := 6) (L2 := [(5, .int (r1.1)), (0, .ref 1), (1, .int x1), (2, .int x2), (3, .int x3), (4, .int x4)]) dX7_partRefusal_6 (by decide) rfl ?_
  refine AR.iload (pc := 8) (j := 0) dX7_partRefusal_8 rfl ?_
  refine AR.if_eq (pc := 10) (tgt := 16) dX7_partRefusal_10 (by decide) (fun c2 => ?_) (fun c2 => ?_)
  · replace h := ite_t c2 h
    refine AR.iload (pc := 16) (j := 5) dX7_partRefusal_16 rfl ?_
    refine AR.if_ge (pc := 18) (tgt := 24) dX7_partRefusal_18 (by decide) (fun c3 => ?_) (fun c3 => ?_)
    · replace h := ite_t c3 h
      refine AR.aload_n (pc := 24) (j := 1) dX7_partRefusal_24 rfl rfl ?_
      refine AR.iload_n (pc := 25) (j := 2) dX7_partRefusal_25 rfl rfl ?_
      refine AR.iload_n (pc := 26) (j := 4) dX7_partRefusal_26 rfl rfl ?_
      refine AR.iload (pc := 27) (j := 5) dX7_partRefusal_27 rfl ?_
      obtain ⟨r4, h4, h⟩ := bd_some h
      refine AR.callV (pc := 29) (As := [.int x1, .int x3, .int x4]) (st := []) (ci := 7) dX7_partRefusal_29 ⟨cd_X7_hasPart, im_X7_hasPart, se_X7_hasPart, ini_X7⟩ ml_X7_59 (A7_hasPart x1 x3 x4 (r1.2) _ h4) ⟨rfl, pd_X7_hasPart⟩ ⟨Nat.le_of_ble_eq_true rfl, Nat.le_of_ble_eq_true rfl⟩ ⟨rfl, rfl⟩ rfl rfl rfl (Nat.le_of_ble_eq_true rfl) ?_
      refine AR.if_eq (pc := 32) (tgt := 39) dX7_partRefusal_32 (by decide) (fun c5 => ?_) (fun c5 => ?_)
      · replace h := ite_t c5 h
        refine AR.bipush (pc := 39) (v := (-13)) dX7_partRefusal_39 (by decide) ?_
        exact AR.iret (pc := 41) rfl dX7_partRefusal_41 (hrI (Option.some.inj h))
      · replace h := ite_f c5 h
        refine AR.iconst (pc := 35) (v := 0) dX7_partRefusal_35 (by decide) ?_
        refine AR.goto (pc := 36) (tgt := 41) dX7_partRefusal_36 (by decide) ?_
        exact AR.iret (pc := 41) rfl dX7_partRefusal_41 (hrI (Option.some.inj h))
    · replace h := ite_f c3 h
      refine AR.bipush (pc := 21) (v := (-14)) dX7_partRefusal_21 (by decide) ?_
      exact AR.iret (pc := 23) rfl dX7_partRefusal_23 (hrI (Option.some.inj h))
  · replace h := ite_f c2 h
    refine AR.iload (pc := 13) (j := 0) dX7_partRefusal_13 rfl ?_
    exact AR.iret (pc := 15) rfl dX7_partRefusal_15 (hrI (Option.some.inj h))
noncomputable def f8_told_31 (x1 : Int32) (z0 : Int32) (σ : HS) : Option (Int32 × HS) :=
  some (x1, (uI σ 0 13 z0))
noncomputable def f8_told_17 (x1 : Int32) (z0 : Int32) (σ : HS) : Option (Int32 × HS) :=
  if (z0 : Int32) = 0 then
    f8_told_31 x1 0 σ
  else
    f8_told_31 x1 ((-10) - x1) σ
noncomputable def f8_told_16 (x1 : Int32) (σ : HS) : Option (Int32 × HS) :=
  f8_told_17 x1 0 σ
noncomputable def f8_told (x1 : Int32) (σ : HS) : Option (Int32 × HS) :=
  if ((-11) : Int32) < x1 then
    f8_told_16 x1 σ
  else
    if (x1 : Int32) < (-14) then
      f8_told_16 x1 σ
    else
      f8_told_17 x1 1 σ
set_option maxHeartbeats 4000000 in
set_option maxRecDepth 100000 in
theorem A8_told_31 {l : Launch} (x1 : Int32) (z0 : Int32) (σ : HS) (r : Int32 × HS) (h : f8_told_31 x1 z0 σ = some r) : AR l RX8 cX8_told 3 (some .int) (wsU yX8_told cX8_told 3 (some .int)) rm8_told SC 31 [(1, .int x1)] [.int z0, .ref 0] σ (some (.int r.1), r.2) := by
  unfold f8_told_31 at h
  refine AR.putI (pc := 31) (ci := 8) (j := 13) (T := TX8) (ty0 := tyX8) (ty := .int) dX8_told_31 rfl rfl rfl (by decide) (fun w hw => wsU_in (uw_X8 w hw)) tyX8_ok nmX8 (wsU_in fl_X8_19) rfl (by decide +kernel) rfl rfl ?_
  refine AR.iload_n (pc := 34) (j := 0) dX8_told_34 rfl rfl ?_
  exact AR.iret (pc := 35) rfl dX8_told_35 (hrI (Option.some.inj h))
set_option maxHeartbeats 4000000 in
set_option maxRecDepth 100000 in
theorem A8_told_17 {l : Launch} (x1 : Int32) (z0 : Int32) (σ : HS) (r : Int32 × HS) (h : f8_told_17 x1 z0 σ = some r) : AR l RX8 cX8_told 3 (some .int) (wsU yX8_told cX8_told 3 (some .int)) rm8_told SC 17 [(0, .ref 0), (1, .int x1)] [.int z0] σ (some (.int r.1), r.2) := by
  unfold f8_told_17 at h
  refine AR.istore_n (pc := 17) (L2 := [(2, .int z0), (0, .ref 0), (1, .int x1)]) dX8_told_17 rfl (by decide) rfl ?_
  refine AR.aload_n (pc := 18) (j := 1) dX8_told_18 rfl rfl ?_
  refine AR.iload_n (pc := 19) (j := 0) dX8_told_19 rfl rfl ?_
  refine AR.if_eq (pc := 20) (tgt := 30) dX8_told_20 (by decide) (fun c1 => ?_) (fun c1 => ?_)
  · replace h := ite_t c1 h
    refine AR.iconst (pc := 30) (v := 0) dX8_told_30 (by decide) ?_
    exact AR.pick [2] rfl (A8_told_31 x1 0 σ r h)
  · replace h := ite_f c1 h
    refine AR.bipush (pc := 23) (v := (-10)) dX8_told_23 (by decide) ?_
    refine AR.iload_n (pc := 25) (j := 2) dX8_told_25 rfl rfl ?_
    refine AR.isub (pc := 26) dX8_told_26 ?_
    refine AR.goto (pc := 27) (tgt := 31) dX8_told_27 (by decide) ?_
    exact AR.pick [2] rfl (A8_told_31 x1 ((-10) - x1) σ r h)
set_option maxHeartbeats 4000000 in
set_option maxRecDepth 100000 in
theorem A8_told_16 {l : Launch} (x1 : Int32) (σ : HS) (r : Int32 × HS) (h : f8_told_16 x1 σ = some r) : AR l RX8 cX8_told 3 (some .int) (wsU yX8_told cX8_told 3 (some .int)) rm8_told SC 16 [(0, .ref 0), (1, .int x1)] [] σ (some (.int r.1), r.2) := by
  unfold f8_told_16 at h
  refine AR.iconst (pc := 16) (v := 0) dX8_told_16 (by decide) ?_
  exact AR.pick [0, 1] rfl (A8_told_17 x1 0 σ r h)
set_option maxHeartbeats 4000000 in
set_option maxRecDepth 100000 in
theorem A8_told {l : Launch} (x1 : Int32) (σ : HS) (r : Int32 × HS) (h : f8_told x1 σ = some r) : MA l yX8_told (wsU yX8_told cX8_told 3 (some .int)) rm8_told SC [.ref 0, .int x1] σ (some (.int r.1), r.2) := by
  refine MA.of (L := [(0, .ref 0), (1, .int x1)]) pn_X8_told rfl (fun _ => Nat.le_of_ble_eq_true rfl) (fun _ => rfl) ?_
  unfold f8_told at h
  refine AR.iload_n (pc := 0) (j := 1) dX8_told_0 rfl rfl ?_
  refine AR.bipush (pc := 1) (v := (-11)) dX8_told_1 (by decide) ?_
  refine AR.icmp_gt (pc := 3) (tgt := 16) dX8_told_3 (by decide) (fun c1 => ?_) (fun c1 => ?_)
  · replace h := ite_t c1 h
    exact AR.pick [0, 1] rfl (A8_told_16 x1 σ r h)
  · replace h := ite_f c1 h
    refine AR.iload_n (pc := 6) (j := 1) dX8_told_6 rfl rfl ?_
    refine AR.bipush (pc := 7) (v := (-14)) dX8_told_7 (by decide) ?_
    refine AR.icmp_lt (pc := 9) (tgt := 16) dX8_told_9 (by decide) (fun c2 => ?_) (fun c2 => ?_)
    · replace h := ite_t c2 h
      exact AR.pick [0, 1] rfl (A8_told_16 x1 σ r h)
    · replace h := ite_f c2 h
      refine AR.iconst (pc := 12) (v := 1) dX8_told_12 (by decide) ?_
      refine AR.goto (pc := 13) (tgt := 17) dX8_told_13 (by decide) ?_
      exact AR.pick [0, 1] rfl (A8_told_17 x1 1 σ r h)
noncomputable def f8_forgetWhatWas (σ : HS) : Option (HS) :=
  bd (f3_forget (uI σ 0 11 0)) fun r1 =>
  bd (f2_clear r1) fun r2 =>
  some r2
set_option maxHeartbeats 4000000 in
set_option maxRecDepth 100000 in
theorem A8_forgetWhatWas {l : Launch} (σ : HS) (r : HS) (h : f8_forgetWhatWas σ = some r) : MA l yX8_forgetWhatWas (wsU yX8_forgetWhatWas cX8_forgetWhatWas 1 none) rm8_forgetWhatWas SC [.ref 0] σ (none, r) := by
  refine MA.of (L := [(0, .ref 0)]) pn_X8_forgetWhatWas rfl (fun _ => Nat.le_of_ble_eq_true rfl) (fun _ => rfl) ?_
  unfold f8_forgetWhatWas at h
  refine AR.aload_n (pc := 0) (j := 0) dX8_forgetWhatWas_0 rfl rfl ?_
  refine AR.iconst (pc := 1) (v := 0) dX8_forgetWhatWas_1 (by decide) ?_
  refine AR.putI (pc := 2) (ci := 8) (j := 11) (T := TX8) (ty0 := tyX8) (ty := .boolean) dX8_forgetWhatWas_2 rfl rfl rfl (by decide) (fun w hw => wsU_in (uw_X8 w hw)) tyX8_ok nmX8 (wsU_in fl_X8_11) rfl (by decide +kernel) rfl rfl ?_
  refine AR.aload_n (pc := 5) (j := 0) dX8_forgetWhatWas_5 rfl rfl ?_
  refine AR.getf (pc := 6) (ci := 8) (j := 10) (d := 44 + 2) (v := .ref 44) (T := TX8) dX8_forgetWhatWas_6 rfl rfl rfl (by decide) (fun w hw => wsU_in (uw_X8 w hw)) (wsU_in fl_X8_97) rfl ?_
  obtain ⟨r1, h1, h⟩ := bd_some h
  refine AR.callVN (pc := 9) (As := []) (st := []) (ci := 3) dX8_forgetWhatWas_9 ⟨cd_X3_forget, im_X3_forget, se_X3_forget, ini_X3⟩ mn_X8_167 (A3_forget (uI σ 0 11 0) _ h1) ⟨rfl, pd_X3_forget⟩ ⟨Nat.le_of_ble_eq_true rfl, Nat.le_of_ble_eq_true rfl⟩ ⟨rfl, rfl⟩ rfl rfl rfl (Nat.le_of_ble_eq_true rfl) ?_
  refine AR.aload_n (pc := 12) (j := 0) dX8_forgetWhatWas_12 rfl rfl ?_
  refine AR.getf (pc := 13) (ci := 8) (j := 9) (d := 40 + 2) (v := .ref 40) (T := TX8) dX8_forgetWhatWas_13 rfl rfl rfl (by decide) (fun w hw => wsU_in (uw_X8 w hw)) (wsU_in fl_X8_88) rfl ?_
  obtain ⟨r2, h2, h⟩ := bd_some h
  refine AR.callVN (pc := 16) (As := []) (st := []) (ci := 2) dX8_forgetWhatWas_16 ⟨cd_X2_clear, im_X2_clear, se_X2_clear, ini_X2⟩ mn_X8_170 (A2_clear r1 _ h2) ⟨rfl, pd_X2_clear⟩ ⟨Nat.le_of_ble_eq_true rfl, Nat.le_of_ble_eq_true rfl⟩ ⟨rfl, rfl⟩ rfl rfl rfl (Nat.le_of_ble_eq_true rfl) ?_
  exact AR.vret (pc := 19) rfl dX8_forgetWhatWas_19 (hrV (Option.some.inj h))
noncomputable def f8_council (x1 : Int32) (x2 : Int32) (x3 : Int32) (x4 : Int32) (σ : HS) : Option (Int32 × HS) :=
  bd (f7_partRefusal x1 x2 x3 x4 σ) fun r1 =>
  if (r1.1 : Int32) = 0 then
    bd (f7_placeOf x1 x3 (r1.2)) fun r3 =>
    bd (f6_firstFault (r3.1) x4 (r3.2)) fun r4 =>
    if (r4.1 : Int32) < 0 then
      bd (f4_become (r4.2)) fun r6 =>
      bd (f0_beginAnew r6) fun r7 =>
      bd (f8_forgetWhatWas r7) fun r8 =>
      bd (f8_told (r8.1 5 0) r8) fun r9 =>
      some (r9.1, r9.2)
    else
      bd (f8_told ((-100) - (r4.1)) (r4.2)) fun r10 =>
      some (r10.1, r10.2)
  else
    bd (f8_told (r1.1) (r1.2)) fun r11 =>
    some (r11.1, r11.2)
set_option maxHeartbeats 4000000 in
set_option maxRecDepth 100000 in
theorem A8_council {l : Launch} (x1 : Int32) (x2 : Int32) (x3 : Int32) (x4 : Int32) (σ : HS) (r : Int32 × HS) (h : f8_council x1 x2 x3 x4 σ = some r) : MA l yX8_council (wsU yX8_council cX8_council 7 (some .int)) rm8_council SC [.ref 0, .int x1, .int x2, .int x3, .int x4] σ (some (.int r.1), r.2) := by
  refine MA.of (L := [(0, .ref 0), (1, .int x1), (2, .int x2), (3, .int x3), (4, .int x4)]) pn_X8_council rfl (fun _ => Nat.le_of_ble_eq_true rfl) (fun _ => rfl) ?_
  unfold f8_council at h
  refine AR.aload_n (pc := 0) (j := 0) dX8_council_0 rfl rfl ?_
  refine AR.getf (pc := 1) (ci := 8) (j := 0) (d := 1 + 2) (v := .ref 1) (T := TX8) dX8_council_1 rfl rfl rfl (by decide) (fun w hw => wsU_in (uw_X8 w hw)) (wsU_in fl_X8_25) rfl ?_
  refine AR.iload_n (pc := 4) (j := 1) dX8_council_4 rfl rfl ?_
  refine AR.iload_n (pc := 5) (j := 2) dX8_council_5 rfl rfl ?_
  refine AR.iload_n (pc := 6) (j := 3) dX8_council_6 rfl rfl ?_
  refine AR.iload (pc := 7) (j := 4) dX8_council_7 rfl ?_
  obtain ⟨r1, h1, h⟩ := bd_some h
  refine AR.callVN (pc := 9) (As := [.int x1, .int x2, .int x3, .int x4]) (st := []) (ci := 7) dX8_council_9 ⟨cd_X7_partRefusal, im_X7_partRefusal, se_X7_partRefusal, ini_X7⟩ mn_X8_105 (A7_partRefusal x1 x2 x3 x4 σ _ h1) ⟨rfl, pd_X7_partRefusal⟩ ⟨Nat.le_of_ble_eq_true rfl, Nat.le_of_ble_eq_true rfl⟩ ⟨rfl, rfl⟩ rfl rfl rfl (Nat.le_of_ble_eq_true rfl) ?_
  refine AR.istore (pc := 12) (L2 := [(5, .int (r1.1)), (0, .ref 0), (1, .int x1), (2, .int x2), (3, .int x3), (4, .int x4)]) dX8_council_12 (by decide) rfl ?_
  refine AR.iload (pc := 14) (j := 0) dX8_council_14 rfl ?_
  refine AR.if_eq (pc := 16) (tgt := 26) dX8_council_16 (by decide) (fun c2 => ?_) (fun c2 => ?_)
  · replace h := ite_t c2 h
    refine AR.aload_n (pc := 26) (j := 1) dX8_council_26 rfl rfl ?_
    refine AR.getf (pc := 27) (ci := 8) (j := 2) (d := 19 + 2) (v := .ref 19) (T := TX8) dX8_council_27 rfl rfl rfl (by decide) (fun w hw => wsU_in (uw_X8 w hw)) (wsU_in fl_X8_45) rfl ?_
    refine AR.iload_n (pc := 30) (j := 2) dX8_council_30 rfl rfl ?_
    refine AR.iload_n (pc := 31) (j := 4) dX8_council_31 rfl rfl ?_
    obtain ⟨r3, h3, h⟩ := bd_some h
    refine AR.callSN (pc := 32) (As := [.int x1, .int x3]) (st := [.ref 19]) dX8_council_32 ⟨cd_X7_placeOf, sm_X7_placeOf, ini_X7⟩ mn_X8_113 (A7_placeOf x1 x3 (r1.2) _ h3) pd_X7_placeOf ⟨Nat.le_of_ble_eq_true rfl, Nat.le_of_ble_eq_true rfl⟩ ⟨rfl, rfl⟩ rfl (Nat.le_of_ble_eq_true rfl) ?_
    refine AR.iload (pc := 35) (j := 5) dX8_council_35 rfl ?_
    obtain ⟨r4, h4, h⟩ := bd_some h
    refine AR.callVN (pc := 37) (As := [.int (r3.1), .int x4]) (st := []) (ci := 6) dX8_council_37 ⟨cd_X6_firstFault, im_X6_firstFault, se_X6_firstFault, ini_X6⟩ mn_X8_117 (A6_firstFault (r3.1) x4 (r3.2) _ h4) ⟨rfl, pd_X6_firstFault⟩ ⟨Nat.le_of_ble_eq_true rfl, Nat.le_of_ble_eq_true rfl⟩ ⟨rfl, rfl⟩ rfl rfl rfl (Nat.le_of_ble_eq_true rfl) ?_
    refine AR.istore (pc := 40) (L2 := [(6, .int (r4.1)), (5, .int (r1.1)), (0, .ref 0), (1, .int x1), (2, .int x2), (3, .int x3), (4, .int x4)]) dX8_council_40 (by decide) rfl ?_
    refine AR.iload (pc := 42) (j := 0) dX8_council_42 rfl ?_
    refine AR.if_lt (pc := 44) (tgt := 57) dX8_council_44 (by decide) (fun c5 => ?_) (fun c5 => ?_)
    · replace h := ite_t c5 h
      refine AR.aload_n (pc := 57) (j := 2) dX8_council_57 rfl rfl ?_
      refine AR.getf (pc := 58) (ci := 8) (j := 1) (d := 5 + 2) (v := .ref 5) (T := TX8) dX8_council_58 rfl rfl rfl (by decide) (fun w hw => wsU_in (uw_X8 w hw)) (wsU_in fl_X8_32) rfl ?_
      refine AR.aload_n (pc := 61) (j := 2) dX8_council_61 rfl rfl ?_
      refine AR.getf (pc := 62) (ci := 8) (j := 2) (d := 19 + 2) (v := .ref 19) (T := TX8) dX8_council_62 rfl rfl rfl (by decide) (fun w hw => wsU_in (uw_X8 w hw)) (wsU_in fl_X8_45) rfl ?_
      refine AR.getfN (pc := 65) (ci := 6) (j := 1) (d := 12 + 2) (v := .ref 12) (T := TX6) dX8_council_65 rfl rfl rfl (by decide) (fun w hw => wsU_in (uw_X6 w hw)) fn_X8_120 rfl ?_
      obtain ⟨r6, h6, h⟩ := bd_some h
      refine AR.callVN (pc := 68) (As := [.ref 12]) (st := []) (ci := 4) dX8_council_68 ⟨cd_X4_become, im_X4_become, se_X4_become, ini_X4⟩ mn_X8_123 (A4_become (r4.2) _ h6) ⟨rfl, pd_X4_become⟩ ⟨Nat.le_of_ble_eq_true rfl, Nat.le_of_ble_eq_true rfl⟩ ⟨rfl, rfl⟩ rfl rfl rfl (Nat.le_of_ble_eq_true rfl) ?_
      refine AR.aload_n (pc := 71) (j := 2) dX8_council_71 rfl rfl ?_
      refine AR.getf (pc := 72) (ci := 8) (j := 3) (d := 20 + 2) (v := .ref 20) (T := TX8) dX8_council_72 rfl rfl rfl (by decide) (fun w hw => wsU_in (uw_X8 w hw)) (wsU_in fl_X8_54) rfl ?_
      obtain ⟨r7, h7, h⟩ := bd_some h
      refine AR.callVN (pc := 75) (As := []) (st := []) (ci := 0) dX8_council_75 ⟨cd_X0_beginAnew, im_X0_beginAnew, se_X0_beginAnew, ini_X0⟩ mn_X8_126 (A0_beginAnew r6 _ h7) ⟨rfl, pd_X0_beginAnew⟩ ⟨Nat.le_of_ble_eq_true rfl, Nat.le_of_ble_eq_true rfl⟩ ⟨rfl, rfl⟩ rfl rfl rfl (Nat.le_of_ble_eq_true rfl) ?_
      refine AR.aload_n (pc := 78) (j := 2) dX8_council_78 rfl rfl ?_
      obtain ⟨r8, h8, h⟩ := bd_some h
      refine AR.callV (pc := 79) (As := []) (st := []) (ci := 8) dX8_council_79 ⟨cd_X8_forgetWhatWas, im_X8_forgetWhatWas, se_X8_forgetWhatWas, ini_X8⟩ ml_X8_129 (A8_forgetWhatWas r7 _ h8) ⟨rfl, pd_X8_forgetWhatWas⟩ ⟨Nat.le_of_ble_eq_true rfl, Nat.le_of_ble_eq_true rfl⟩ ⟨rfl, rfl⟩ rfl rfl rfl (Nat.le_of_ble_eq_true rfl) ?_
      refine AR.aload_n (pc := 82) (j := 2) dX8_council_82 rfl rfl ?_
      refine AR.aload_n (pc := 83) (j := 2) dX8_council_83 rfl rfl ?_
      refine AR.getf (pc := 84) (ci := 8) (j := 1) (d := 5 + 2) (v := .ref 5) (T := TX8) dX8_council_84 rfl rfl rfl (by decide) (fun w hw => wsU_in (uw_X8 w hw)) (wsU_in fl_X8_32) rfl ?_
      refine AR.getfN (pc := 87) (ci := 4) (j := 0) (d := 0) (v := .int (r8.1 5 0)) (T := TX4) dX8_council_87 rfl rfl rfl (by decide) (fun w hw => wsU_in (uw_X4 w hw)) fn_X8_132 rfl ?_
      obtain ⟨r9, h9, h⟩ := bd_some h
      refine AR.callV (pc := 90) (As := [.int (r8.1 5 0)]) (st := []) (ci := 8) dX8_council_90 ⟨cd_X8_told, im_X8_told, se_X8_told, ini_X8⟩ ml_X8_109 (A8_told (r8.1 5 0) r8 _ h9) ⟨rfl, pd_X8_told⟩ ⟨Nat.le_of_ble_eq_true rfl, Nat.le_of_ble_eq_true rfl⟩ ⟨rfl, rfl⟩ rfl rfl rfl (Nat.le_of_ble_eq_true rfl) ?_
      exact AR.iret (pc := 93) rfl dX8_council_93 (hrI (Option.some.inj h))
    · replace h := ite_f c5 h
      refine AR.aload_n (pc := 47) (j := 2) dX8_council_47 rfl rfl ?_
      refine AR.bipush (pc := 48) (v := (-100)) dX8_council_48 (by decide) ?_
      refine AR.iload (pc := 50) (j := 0) dX8_council_50 rfl ?_
      refine AR.isub (pc := 52) dX8_council_52 ?_
      obtain ⟨r10, h10, h⟩ := bd_some h
      refine AR.callV (pc := 53) (As := [.int ((-100) - (r4.1))]) (st := []) (ci := 8) dX8_council_53 ⟨cd_X8_told, im_X8_told, se_X8_told, ini_X8⟩ ml_X8_109 (A8_told ((-100) - (r4.1)) (r4.2) _ h10) ⟨rfl, pd_X8_told⟩ ⟨Nat.le_of_ble_eq_true rfl, Nat.le_of_ble_eq_true rfl⟩ ⟨rfl, rfl⟩ rfl rfl rfl (Nat.le_of_ble_eq_true rfl) ?_
      exact AR.iret (pc := 56) rfl dX8_council_56 (hrI (Option.some.inj h))
  · replace h := ite_f c2 h
    refine AR.aload_n (pc := 19) (j := 1) dX8_council_19 rfl rfl ?_
    refine AR.iload (pc := 20) (j := 0) dX8_council_20 rfl ?_
    obtain ⟨r11, h11, h⟩ := bd_some h
    refine AR.callV (pc := 22) (As := [.int (r1.1)]) (st := []) (ci := 8) dX8_council_22 ⟨cd_X8_told, im_X8_told, se_X8_told, ini_X8⟩ ml_X8_109 (A8_told (r1.1) (r1.2) _ h11) ⟨rfl, pd_X8_told⟩ ⟨Nat.le_of_ble_eq_true rfl, Nat.le_of_ble_eq_true rfl⟩ ⟨rfl, rfl⟩ rfl rfl rfl (Nat.le_of_ble_eq_true rfl) ?_
    exact AR.iret (pc := 25) rfl dX8_council_25 (hrI (Option.some.inj h))
noncomputable def f8_ofSpeaker (x1 : Int32) (x2 : Int32) (σ : HS) : Option (Int32 × HS) :=
  bd (f4_has x1 σ) fun r1 =>
  if (r1.1 : Int32) = 0 then
    some ((-1), r1.2)
  else
    if (x2 : Int32) = 0 then
      bd (f4_kindOf 5 x1 (r1.2)) fun r4 =>
      some (r4.1, r4.2)
    else
      if (x2 : Int32) = 1 then
        bd (f4_wordsOf 5 x1 (r1.2)) fun r6 =>
        some (r6.1, r6.2)
      else
        if (x2 : Int32) = 2 then
          bd (f0_placeOf x1 (r1.2)) fun r8 =>
          some (r8.1, r8.2)
        else
          some ((-2), r1.2)
set_option maxHeartbeats 4000000 in
set_option maxRecDepth 100000 in
theorem A8_ofSpeaker {l : Launch} (x1 : Int32) (x2 : Int32) (σ : HS) (r : Int32 × HS) (h : f8_ofSpeaker x1 x2 σ = some r) : MA l yX8_ofSpeaker (wsU yX8_ofSpeaker cX8_ofSpeaker 3 (some .int)) rm8_ofSpeaker SC [.ref 0, .int x1, .int x2] σ (some (.int r.1), r.2) := by
  refine MA.of (L := [(0, .ref 0), (1, .int x1), (2, .int x2)]) pn_X8_ofSpeaker rfl (fun _ => Nat.le_of_ble_eq_true rfl) (fun _ => rfl) ?_
  unfold f8_ofSpeaker at h
  refine AR.aload_n (pc := 0) (j := 0) dX8_ofSpeaker_0 rfl rfl ?_
  refine AR.getf (pc := 1) (ci := 8) (j := 1) (d := 5 + 2) (v := .ref 5) (T := TX8) dX8_ofSpeaker_1 rfl rfl rfl (by decide) (fun w hw => wsU_in (uw_X8 w hw)) (wsU_in fl_X8_32) rfl ?_
  refine AR.iload_n (pc := 4) (j := 1) dX8_ofSpeaker_4 rfl rfl ?_
  obtain ⟨r1, h1, h⟩ := bd_some h
  refine AR.callVN (pc := 5) (As := [.int x1]) (st := []) (ci := 4) dX8_ofSpeaker_5 ⟨cd_X4_has, im_X4_has, se_X4_has, ini_X4⟩ mn_X8_135 (A4_has x1 σ _ h1) ⟨rfl, pd_X4_has⟩ ⟨Nat.le_of_ble_eq_true rfl, Nat.le_of_ble_eq_true rfl⟩ ⟨rfl, rfl⟩ rfl rfl rfl (Nat.le_of_ble_eq_true rfl) ?_
  refine AR.if_ne (pc := 8) (tgt := 13) dX8_ofSpeaker_8 (by decide) (fun c2 => ?_) (fun c2 => ?_)
  · replace h := ite_f c2 h
    refine AR.iload_n (pc := 13) (j := 2) dX8_ofSpeaker_13 rfl rfl ?_
    by_cases c3 : (x2 : Int32) = 0
    · replace h := ite_t c3 h
      refine AR.tableIn (pc := 14) (off := 26) (tgt := 40) dX8_ofSpeaker_14 (by rw [c3]; decide) (by rw [c3]; decide) (by rw [c3]; rfl) (by decide) ?_
      refine AR.aload_n (pc := 40) (j := 0) dX8_ofSpeaker_40 rfl rfl ?_
      refine AR.getf (pc := 41) (ci := 8) (j := 1) (d := 5 + 2) (v := .ref 5) (T := TX8) dX8_ofSpeaker_41 rfl rfl rfl (by decide) (fun w hw => wsU_in (uw_X8 w hw)) (wsU_in fl_X8_32) rfl ?_
      refine AR.iload_n (pc := 44) (j := 1) dX8_ofSpeaker_44 rfl rfl ?_
      obtain ⟨r4, h4, h⟩ := bd_some h
      refine AR.callVN (pc := 45) (As := [.int x1]) (st := []) (ci := 4) dX8_ofSpeaker_45 ⟨cd_X4_kindOf, im_X4_kindOf, se_X4_kindOf, ini_X4⟩ mn_X8_139 (A4_kindOf 5 ppl5 x1 (r1.2) _ h4) ⟨rfl, pd_X4_kindOf⟩ ⟨Nat.le_of_ble_eq_true rfl, Nat.le_of_ble_eq_true rfl⟩ ⟨rfl, rfl⟩ rfl rfl rfl (Nat.le_of_ble_eq_true rfl) ?_
      exact AR.iret (pc := 48) rfl dX8_ofSpeaker_48 (hrI (Option.some.inj h))
    · replace h := ite_f c3 h
      by_cases c5 : (x2 : Int32) = 1
      · replace h := ite_t c5 h
        refine AR.tableIn (pc := 14) (off := 35) (tgt := 49) dX8_ofSpeaker_14 (by rw [c5]; decide) (by rw [c5]; decide) (by rw [c5]; rfl) (by decide) ?_
        refine AR.aload_n (pc := 49) (j := 0) dX8_ofSpeaker_49 rfl rfl ?_
        refine AR.getf (pc := 50) (ci := 8) (j := 1) (d := 5 + 2) (v := .ref 5) (T := TX8) dX8_ofSpeaker_50 rfl rfl rfl (by decide) (fun w hw => wsU_in (uw_X8 w hw)) (wsU_in fl_X8_32) rfl ?_
        refine AR.iload_n (pc := 53) (j := 1) dX8_ofSpeaker_53 rfl rfl ?_
        obtain ⟨r6, h6, h⟩ := bd_some h
        refine AR.callVN (pc := 54) (As := [.int x1]) (st := []) (ci := 4) dX8_ofSpeaker_54 ⟨cd_X4_wordsOf, im_X4_wordsOf, se_X4_wordsOf, ini_X4⟩ mn_X8_142 (A4_wordsOf 5 ppl5 x1 (r1.2) _ h6) ⟨rfl, pd_X4_wordsOf⟩ ⟨Nat.le_of_ble_eq_true rfl, Nat.le_of_ble_eq_true rfl⟩ ⟨rfl, rfl⟩ rfl rfl rfl (Nat.le_of_ble_eq_true rfl) ?_
        exact AR.iret (pc := 57) rfl dX8_ofSpeaker_57 (hrI (Option.some.inj h))
      · replace h := ite_f c5 h
        by_cases c7 : (x2 : Int32) = 2
        · replace h := ite_t c7 h
          refine AR.tableIn (pc := 14) (off := 44) (tgt := 58) dX8_ofSpeaker_14 (by rw [c7]; decide) (by rw [c7]; decide) (by rw [c7]; rfl) (by decide) ?_
          refine AR.aload_n (pc := 58) (j := 0) dX8_ofSpeaker_58 rfl rfl ?_
          refine AR.getf (pc := 59) (ci := 8) (j := 3) (d := 20 + 2) (v := .ref 20) (T := TX8) dX8_ofSpeaker_59 rfl rfl rfl (by decide) (fun w hw => wsU_in (uw_X8 w hw)) (wsU_in fl_X8_54) rfl ?_
          refine AR.iload_n (pc := 62) (j := 1) dX8_ofSpeaker_62 rfl rfl ?_
          obtain ⟨r8, h8, h⟩ := bd_some h
          refine AR.callVN (pc := 63) (As := [.int x1]) (st := []) (ci := 0) dX8_ofSpeaker_63 ⟨cd_X0_placeOf, im_X0_placeOf, se_X0_placeOf, ini_X0⟩ mn_X8_145 (A0_placeOf x1 (r1.2) _ h8) ⟨rfl, pd_X0_placeOf⟩ ⟨Nat.le_of_ble_eq_true rfl, Nat.le_of_ble_eq_true rfl⟩ ⟨rfl, rfl⟩ rfl rfl rfl (Nat.le_of_ble_eq_true rfl) ?_
          exact AR.iret (pc := 66) rfl dX8_ofSpeaker_66 (hrI (Option.some.inj h))
        · replace h := ite_f c7 h
          refine AR.tableOut (pc := 14) (tgt := 67) dX8_ofSpeaker_14 (tsw3 c3 c5 c7) (by decide) ?_
          refine AR.bipush (pc := 67) (v := (-2)) dX8_ofSpeaker_67 (by decide) ?_
          exact AR.iret (pc := 69) rfl dX8_ofSpeaker_69 (hrI (Option.some.inj h))
  · replace h := ite_t c2 h
    refine AR.iconst (pc := 11) (v := (-1)) dX8_ofSpeaker_11 (by decide) ?_
    exact AR.iret (pc := 12) rfl dX8_ofSpeaker_12 (hrI (Option.some.inj h))
noncomputable def f8_ofWord (x1 : Int32) (x2 : Int32) (x3 : Int32) (σ : HS) : Option (Int32 × HS) :=
  bd (f4_hasWord x1 x2 σ) fun r1 =>
  if (r1.1 : Int32) = 0 then
    some ((-1), r1.2)
  else
    if (x3 : Int32) = 0 then
      bd (f4_lengthOf 5 x1 x2 (r1.2)) fun r4 =>
      some (r4.1, r4.2)
    else
      if (x3 : Int32) = 1 then
        bd (f4_ownOf 5 x1 x2 (r1.2)) fun r6 =>
        some (r6.1, r6.2)
      else
        if (x3 : Int32) = 2 then
          bd (f4_othersOf 5 x1 x2 (r1.2)) fun r8 =>
          some (r8.1, r8.2)
        else
          some ((-2), r1.2)
set_option maxHeartbeats 4000000 in
set_option maxRecDepth 100000 in
theorem A8_ofWord {l : Launch} (x1 : Int32) (x2 : Int32) (x3 : Int32) (σ : HS) (r : Int32 × HS) (h : f8_ofWord x1 x2 x3 σ = some r) : MA l yX8_ofWord (wsU yX8_ofWord cX8_ofWord 4 (some .int)) rm8_ofWord SC [.ref 0, .int x1, .int x2, .int x3] σ (some (.int r.1), r.2) := by
  refine MA.of (L := [(0, .ref 0), (1, .int x1), (2, .int x2), (3, .int x3)]) pn_X8_ofWord rfl (fun _ => Nat.le_of_ble_eq_true rfl) (fun _ => rfl) ?_
  unfold f8_ofWord at h
  refine AR.aload_n (pc := 0) (j := 0) dX8_ofWord_0 rfl rfl ?_
  refine AR.getf (pc := 1) (ci := 8) (j := 1) (d := 5 + 2) (v := .ref 5) (T := TX8) dX8_ofWord_1 rfl rfl rfl (by decide) (fun w hw => wsU_in (uw_X8 w hw)) (wsU_in fl_X8_32) rfl ?_
  refine AR.iload_n (pc := 4) (j := 1) dX8_ofWord_4 rfl rfl ?_
  refine AR.iload_n (pc := 5) (j := 2) dX8_ofWord_5 rfl rfl ?_
  obtain ⟨r1, h1, h⟩ := bd_some h
  refine AR.callVN (pc := 6) (As := [.int x1, .int x2]) (st := []) (ci := 4) dX8_ofWord_6 ⟨cd_X4_hasWord, im_X4_hasWord, se_X4_hasWord, ini_X4⟩ mn_X8_147 (A4_hasWord x1 x2 σ _ h1) ⟨rfl, pd_X4_hasWord⟩ ⟨Nat.le_of_ble_eq_true rfl, Nat.le_of_ble_eq_true rfl⟩ ⟨rfl, rfl⟩ rfl rfl rfl (Nat.le_of_ble_eq_true rfl) ?_
  refine AR.if_ne (pc := 9) (tgt := 14) dX8_ofWord_9 (by decide) (fun c2 => ?_) (fun c2 => ?_)
  · replace h := ite_f c2 h
    refine AR.iload_n (pc := 14) (j := 3) dX8_ofWord_14 rfl rfl ?_
    by_cases c3 : (x3 : Int32) = 0
    · replace h := ite_t c3 h
      refine AR.tableIn (pc := 15) (off := 25) (tgt := 40) dX8_ofWord_15 (by rw [c3]; decide) (by rw [c3]; decide) (by rw [c3]; rfl) (by decide) ?_
      refine AR.aload_n (pc := 40) (j := 0) dX8_ofWord_40 rfl rfl ?_
      refine AR.getf (pc := 41) (ci := 8) (j := 1) (d := 5 + 2) (v := .ref 5) (T := TX8) dX8_ofWord_41 rfl rfl rfl (by decide) (fun w hw => wsU_in (uw_X8 w hw)) (wsU_in fl_X8_32) rfl ?_
      refine AR.iload_n (pc := 44) (j := 1) dX8_ofWord_44 rfl rfl ?_
      refine AR.iload_n (pc := 45) (j := 2) dX8_ofWord_45 rfl rfl ?_
      obtain ⟨r4, h4, h⟩ := bd_some h
      refine AR.callVN (pc := 46) (As := [.int x1, .int x2]) (st := []) (ci := 4) dX8_ofWord_46 ⟨cd_X4_lengthOf, im_X4_lengthOf, se_X4_lengthOf, ini_X4⟩ mn_X8_151 (A4_lengthOf 5 ppl5 x1 x2 (r1.2) _ h4) ⟨rfl, pd_X4_lengthOf⟩ ⟨Nat.le_of_ble_eq_true rfl, Nat.le_of_ble_eq_true rfl⟩ ⟨rfl, rfl⟩ rfl rfl rfl (Nat.le_of_ble_eq_true rfl) ?_
      exact AR.iret (pc := 49) rfl dX8_ofWord_49 (hrI (Option.some.inj h))
    · replace h := ite_f c3 h
      by_cases c5 : (x3 : Int32) = 1
      · replace h := ite_t c5 h
        refine AR.tableIn (pc := 15) (off := 35) (tgt := 50) dX8_ofWord_15 (by rw [c5]; decide) (by rw [c5]; decide) (by rw [c5]; rfl) (by decide) ?_
        refine AR.aload_n (pc := 50) (j := 0) dX8_ofWord_50 rfl rfl ?_
        refine AR.getf (pc := 51) (ci := 8) (j := 1) (d := 5 + 2) (v := .ref 5) (T := TX8) dX8_ofWord_51 rfl rfl rfl (by decide) (fun w hw => wsU_in (uw_X8 w hw)) (wsU_in fl_X8_32) rfl ?_
        refine AR.iload_n (pc := 54) (j := 1) dX8_ofWord_54 rfl rfl ?_
        refine AR.iload_n (pc := 55) (j := 2) dX8_ofWord_55 rfl rfl ?_
        obtain ⟨r6, h6, h⟩ := bd_some h
        refine AR.callVN (pc := 56) (As := [.int x1, .int x2]) (st := []) (ci := 4) dX8_ofWord_56 ⟨cd_X4_ownOf, im_X4_ownOf, se_X4_ownOf, ini_X4⟩ mn_X8_154 (A4_ownOf 5 ppl5 x1 x2 (r1.2) _ h6) ⟨rfl, pd_X4_ownOf⟩ ⟨Nat.le_of_ble_eq_true rfl, Nat.le_of_ble_eq_true rfl⟩ ⟨rfl, rfl⟩ rfl rfl rfl (Nat.le_of_ble_eq_true rfl) ?_
        exact AR.iret (pc := 59) rfl dX8_ofWord_59 (hrI (Option.some.inj h))
      · replace h := ite_f c5 h
        by_cases c7 : (x3 : Int32) = 2
        · replace h := ite_t c7 h
          refine AR.tableIn (pc := 15) (off := 45) (tgt := 60) dX8_ofWord_15 (by rw [c7]; decide) (by rw [c7]; decide) (by rw [c7]; rfl) (by decide) ?_
          refine AR.aload_n (pc := 60) (j := 0) dX8_ofWord_60 rfl rfl ?_
          refine AR.getf (pc := 61) (ci := 8) (j := 1) (d := 5 + 2) (v := .ref 5) (T := TX8) dX8_ofWord_61 rfl rfl rfl (by decide) (fun w hw => wsU_in (uw_X8 w hw)) (wsU_in fl_X8_32) rfl ?_
          refine AR.iload_n (pc := 64) (j := 1) dX8_ofWord_64 rfl rfl ?_
          refine AR.iload_n (pc := 65) (j := 2) dX8_ofWord_65 rfl rfl ?_
          obtain ⟨r8, h8, h⟩ := bd_some h
          refine AR.callVN (pc := 66) (As := [.int x1, .int x2]) (st := []) (ci := 4) dX8_ofWord_66 ⟨cd_X4_othersOf, im_X4_othersOf, se_X4_othersOf, ini_X4⟩ mn_X8_157 (A4_othersOf 5 ppl5 x1 x2 (r1.2) _ h8) ⟨rfl, pd_X4_othersOf⟩ ⟨Nat.le_of_ble_eq_true rfl, Nat.le_of_ble_eq_true rfl⟩ ⟨rfl, rfl⟩ rfl rfl rfl (Nat.le_of_ble_eq_true rfl) ?_
          exact AR.iret (pc := 69) rfl dX8_ofWord_69 (hrI (Option.some.inj h))
        · replace h := ite_f c7 h
          refine AR.tableOut (pc := 15) (tgt := 70) dX8_ofWord_15 (tsw3 c3 c5 c7) (by decide) ?_
          refine AR.bipush (pc := 70) (v := (-2)) dX8_ofWord_70 (by decide) ?_
          exact AR.iret (pc := 72) rfl dX8_ofWord_72 (hrI (Option.some.inj h))
  · replace h := ite_t c2 h
    refine AR.iconst (pc := 12) (v := (-1)) dX8_ofWord_12 (by decide) ?_
    exact AR.iret (pc := 13) rfl dX8_ofWord_13 (hrI (Option.some.inj h))
noncomputable def f8_law (x1 : Int32) (σ : HS) : Option (Int32 × HS) :=
  if (x1 : Int32) < 0 then
    some ((-2), σ)
  else
    if (x1 : Int32) < 4 then
      if ((σ.1 5 0) : Int32) = 0 then
        some ((-3), σ)
      else
        bd (f8_forgetWhatWas (uI σ 20 2 x1)) fun r4 =>
        some ((σ.1 20 2), r4)
    else
      some ((-2), σ)
set_option maxHeartbeats 4000000 in
set_option maxRecDepth 100000 in
theorem A8_law {l : Launch} (x1 : Int32) (σ : HS) (r : Int32 × HS) (h : f8_law x1 σ = some r) : MA l yX8_law (wsU yX8_law cX8_law 3 (some .int)) rm8_law SC [.ref 0, .int x1] σ (some (.int r.1), r.2) := by
  refine MA.of (L := [(0, .ref 0), (1, .int x1)]) pn_X8_law rfl (fun _ => Nat.le_of_ble_eq_true rfl) (fun _ => rfl) ?_
  unfold f8_law at h
  refine AR.iload_n (pc := 0) (j := 1) dX8_law_0 rfl rfl ?_
  refine AR.if_lt (pc := 1) (tgt := 9) dX8_law_1 (by decide) (fun c1 => ?_) (fun c1 => ?_)
  · replace h := ite_t c1 h
    refine AR.bipush (pc := 9) (v := (-2)) dX8_law_9 (by decide) ?_
    exact AR.iret (pc := 11) rfl dX8_law_11 (hrI (Option.some.inj h))
  · replace h := ite_f c1 h
    refine AR.iload_n (pc := 4) (j := 1) dX8_law_4 rfl rfl ?_
    refine AR.iconst (pc := 5) (v := 4) dX8_law_5 (by decide) ?_
    refine AR.icmp_lt (pc := 6) (tgt := 12) dX8_law_6 (by decide) (fun c2 => ?_) (fun c2 => ?_)
    · replace h := ite_t c2 h
      refine AR.aload_n (pc := 12) (j := 0) dX8_law_12 rfl rfl ?_
      refine AR.getf (pc := 13) (ci := 8) (j := 1) (d := 5 + 2) (v := .ref 5) (T := TX8) dX8_law_13 rfl rfl rfl (by decide) (fun w hw => wsU_in (uw_X8 w hw)) (wsU_in fl_X8_32) rfl ?_
      refine AR.getfN (pc := 16) (ci := 4) (j := 0) (d := 0) (v := .int (σ.1 5 0)) (T := TX4) dX8_law_16 rfl rfl rfl (by decide) (fun w hw => wsU_in (uw_X4 w hw)) fn_X8_132 rfl ?_
      refine AR.if_ne (pc := 19) (tgt := 25) dX8_law_19 (by decide) (fun c3 => ?_) (fun c3 => ?_)
      · replace h := ite_f c3 h
        refine AR.aload_n (pc := 25) (j := 0) dX8_law_25 rfl rfl ?_
        refine AR.getf (pc := 26) (ci := 8) (j := 3) (d := 20 + 2) (v := .ref 20) (T := TX8) dX8_law_26 rfl rfl rfl (by decide) (fun w hw => wsU_in (uw_X8 w hw)) (wsU_in fl_X8_54) rfl ?_
        refine AR.getfN (pc := 29) (ci := 0) (j := 2) (d := 0) (v := .int (σ.1 20 2)) (T := TX0) dX8_law_29 rfl rfl rfl (by decide) (fun w hw => wsU_in (uw_X0 w hw)) fn_X8_160 rfl ?_
        refine AR.istore_n (pc := 32) (L2 := [(2, .int (σ.1 20 2)), (0, .ref 0), (1, .int x1)]) dX8_law_32 rfl (by decide) rfl ?_
        refine AR.aload_n (pc := 33) (j := 1) dX8_law_33 rfl rfl ?_
        refine AR.getf (pc := 34) (ci := 8) (j := 3) (d := 20 + 2) (v := .ref 20) (T := TX8) dX8_law_34 rfl rfl rfl (by decide) (fun w hw => wsU_in (uw_X8 w hw)) (wsU_in fl_X8_54) rfl ?_
        refine AR.iload_n (pc := 37) (j := 2) dX8_law_37 rfl rfl ?_
        refine AR.putIN (pc := 38) (ci := 0) (j := 2) (T := TX0) (ty0 := tyX0) (ty := .int) dX8_law_38 rfl rfl rfl (by decide) (fun w hw => wsU_in (uw_X0 w hw)) tyX0_ok nmX0 fn_X8_160 rfl (by decide +kernel) rfl rfl ?_
        refine AR.aload_n (pc := 41) (j := 1) dX8_law_41 rfl rfl ?_
        obtain ⟨r4, h4, h⟩ := bd_some h
        refine AR.callV (pc := 42) (As := []) (st := []) (ci := 8) dX8_law_42 ⟨cd_X8_forgetWhatWas, im_X8_forgetWhatWas, se_X8_forgetWhatWas, ini_X8⟩ ml_X8_129 (A8_forgetWhatWas (uI σ 20 2 x1) _ h4) ⟨rfl, pd_X8_forgetWhatWas⟩ ⟨Nat.le_of_ble_eq_true rfl, Nat.le_of_ble_eq_true rfl⟩ ⟨rfl, rfl⟩ rfl rfl rfl (Nat.le_of_ble_eq_true rfl) ?_
        refine AR.iload_n (pc := 45) (j := 0) dX8_law_45 rfl rfl ?_
        exact AR.iret (pc := 46) rfl dX8_law_46 (hrI (Option.some.inj h))
      · replace h := ite_t c3 h
        refine AR.bipush (pc := 22) (v := (-3)) dX8_law_22 (by decide) ?_
        exact AR.iret (pc := 24) rfl dX8_law_24 (hrI (Option.some.inj h))
    · replace h := ite_f c2 h
      refine AR.bipush (pc := 9) (v := (-2)) dX8_law_9 (by decide) ?_
      exact AR.iret (pc := 11) rfl dX8_law_11 (hrI (Option.some.inj h))
noncomputable def f8_swap (x1 : Int32) (x2 : Int32) (σ : HS) : Option (Int32 × HS) :=
  bd (f4_has x1 σ) fun r1 =>
  if (r1.1 : Int32) = 0 then
    some ((-1), r1.2)
  else
    bd (f4_has x2 (r1.2)) fun r3 =>
    if (r3.1 : Int32) = 0 then
      some ((-1), r3.2)
    else
      bd (f0_placeOf x1 (r3.2)) fun r5 =>
      bd (f0_placeOf x2 (r5.2)) fun r6 =>
      bd (f0_exchange 20 (r5.1) (r6.1) (r6.2)) fun r7 =>
      bd (f8_forgetWhatWas r7) fun r8 =>
      some (1, r8)
set_option maxHeartbeats 4000000 in
set_option maxRecDepth 100000 in
theorem A8_swap {l : Launch} (x1 : Int32) (x2 : Int32) (σ : HS) (r : Int32 × HS) (h : f8_swap x1 x2 σ = some r) : MA l yX8_swap (wsU yX8_swap cX8_swap 3 (some .int)) rm8_swap SC [.ref 0, .int x1, .int x2] σ (some (.int r.1), r.2) := by
  refine MA.of (L := [(0, .ref 0), (1, .int x1), (2, .int x2)]) pn_X8_swap rfl (fun _ => Nat.le_of_ble_eq_true rfl) (fun _ => rfl) ?_
  unfold f8_swap at h
  refine AR.aload_n (pc := 0) (j := 0) dX8_swap_0 rfl rfl ?_
  refine AR.getf (pc := 1) (ci := 8) (j := 1) (d := 5 + 2) (v := .ref 5) (T := TX8) dX8_swap_1 rfl rfl rfl (by decide) (fun w hw => wsU_in (uw_X8 w hw)) (wsU_in fl_X8_32) rfl ?_
  refine AR.iload_n (pc := 4) (j := 1) dX8_swap_4 rfl rfl ?_
  obtain ⟨r1, h1, h⟩ := bd_some h
  refine AR.callVN (pc := 5) (As := [.int x1]) (st := []) (ci := 4) dX8_swap_5 ⟨cd_X4_has, im_X4_has, se_X4_has, ini_X4⟩ mn_X8_135 (A4_has x1 σ _ h1) ⟨rfl, pd_X4_has⟩ ⟨Nat.le_of_ble_eq_true rfl, Nat.le_of_ble_eq_true rfl⟩ ⟨rfl, rfl⟩ rfl rfl rfl (Nat.le_of_ble_eq_true rfl) ?_
  refine AR.if_eq (pc := 8) (tgt := 22) dX8_swap_8 (by decide) (fun c2 => ?_) (fun c2 => ?_)
  · replace h := ite_t c2 h
    refine AR.iconst (pc := 22) (v := (-1)) dX8_swap_22 (by decide) ?_
    exact AR.iret (pc := 23) rfl dX8_swap_23 (hrI (Option.some.inj h))
  · replace h := ite_f c2 h
    refine AR.aload_n (pc := 11) (j := 0) dX8_swap_11 rfl rfl ?_
    refine AR.getf (pc := 12) (ci := 8) (j := 1) (d := 5 + 2) (v := .ref 5) (T := TX8) dX8_swap_12 rfl rfl rfl (by decide) (fun w hw => wsU_in (uw_X8 w hw)) (wsU_in fl_X8_32) rfl ?_
    refine AR.iload_n (pc := 15) (j := 2) dX8_swap_15 rfl rfl ?_
    obtain ⟨r3, h3, h⟩ := bd_some h
    refine AR.callVN (pc := 16) (As := [.int x2]) (st := []) (ci := 4) dX8_swap_16 ⟨cd_X4_has, im_X4_has, se_X4_has, ini_X4⟩ mn_X8_135 (A4_has x2 (r1.2) _ h3) ⟨rfl, pd_X4_has⟩ ⟨Nat.le_of_ble_eq_true rfl, Nat.le_of_ble_eq_true rfl⟩ ⟨rfl, rfl⟩ rfl rfl rfl (Nat.le_of_ble_eq_true rfl) ?_
    refine AR.if_ne (pc := 19) (tgt := 24) dX8_swap_19 (by decide) (fun c4 => ?_) (fun c4 => ?_)
    · replace h := ite_f c4 h
      refine AR.aload_n (pc := 24) (j := 0) dX8_swap_24 rfl rfl ?_
      refine AR.getf (pc := 25) (ci := 8) (j := 3) (d := 20 + 2) (v := .ref 20) (T := TX8) dX8_swap_25 rfl rfl rfl (by decide) (fun w hw => wsU_in (uw_X8 w hw)) (wsU_in fl_X8_54) rfl ?_
      refine AR.aload_n (pc := 28) (j := 0) dX8_swap_28 rfl rfl ?_
      refine AR.getf (pc := 29) (ci := 8) (j := 3) (d := 20 + 2) (v := .ref 20) (T := TX8) dX8_swap_29 rfl rfl rfl (by decide) (fun w hw => wsU_in (uw_X8 w hw)) (wsU_in fl_X8_54) rfl ?_
      refine AR.iload_n (pc := 32) (j := 1) dX8_swap_32 rfl rfl ?_
      obtain ⟨r5, h5, h⟩ := bd_some h
      refine AR.callVN (pc := 33) (As := [.int x1]) (st := [.ref 20]) (ci := 0) dX8_swap_33 ⟨cd_X0_placeOf, im_X0_placeOf, se_X0_placeOf, ini_X0⟩ mn_X8_145 (A0_placeOf x1 (r3.2) _ h5) ⟨rfl, pd_X0_placeOf⟩ ⟨Nat.le_of_ble_eq_true rfl, Nat.le_of_ble_eq_true rfl⟩ ⟨rfl, rfl⟩ rfl rfl rfl (Nat.le_of_ble_eq_true rfl) ?_
      refine AR.aload_n (pc := 36) (j := 0) dX8_swap_36 rfl rfl ?_
      refine AR.getf (pc := 37) (ci := 8) (j := 3) (d := 20 + 2) (v := .ref 20) (T := TX8) dX8_swap_37 rfl rfl rfl (by decide) (fun w hw => wsU_in (uw_X8 w hw)) (wsU_in fl_X8_54) rfl ?_
      refine AR.iload_n (pc := 40) (j := 2) dX8_swap_40 rfl rfl ?_
      obtain ⟨r6, h6, h⟩ := bd_some h
      refine AR.callVN (pc := 41) (As := [.int x2]) (st := [.int (r5.1), .ref 20]) (ci := 0) dX8_swap_41 ⟨cd_X0_placeOf, im_X0_placeOf, se_X0_placeOf, ini_X0⟩ mn_X8_145 (A0_placeOf x2 (r5.2) _ h6) ⟨rfl, pd_X0_placeOf⟩ ⟨Nat.le_of_ble_eq_true rfl, Nat.le_of_ble_eq_true rfl⟩ ⟨rfl, rfl⟩ rfl rfl rfl (Nat.le_of_ble_eq_true rfl) ?_
      obtain ⟨r7, h7, h⟩ := bd_some h
      refine AR.callVN (pc := 44) (As := [.int (r5.1), .int (r6.1)]) (st := []) (ci := 0) dX8_swap_44 ⟨cd_X0_exchange, im_X0_exchange, se_X0_exchange, ini_X0⟩ mn_X8_163 (A0_exchange 20 grp20 (r5.1) (r6.1) (r6.2) _ h7) ⟨rfl, pd_X0_exchange⟩ ⟨Nat.le_of_ble_eq_true rfl, Nat.le_of_ble_eq_true rfl⟩ ⟨rfl, rfl⟩ rfl rfl rfl (Nat.le_of_ble_eq_true rfl) ?_
      refine AR.aload_n (pc := 47) (j := 0) dX8_swap_47 rfl rfl ?_
      obtain ⟨r8, h8, h⟩ := bd_some h
      refine AR.callV (pc := 48) (As := []) (st := []) (ci := 8) dX8_swap_48 ⟨cd_X8_forgetWhatWas, im_X8_forgetWhatWas, se_X8_forgetWhatWas, ini_X8⟩ ml_X8_129 (A8_forgetWhatWas r7 _ h8) ⟨rfl, pd_X8_forgetWhatWas⟩ ⟨Nat.le_of_ble_eq_true rfl, Nat.le_of_ble_eq_true rfl⟩ ⟨rfl, rfl⟩ rfl rfl rfl (Nat.le_of_ble_eq_true rfl) ?_
      refine AR.iconst (pc := 51) (v := 1) dX8_swap_51 (by decide) ?_
      exact AR.iret (pc := 52) rfl dX8_swap_52 (hrI (Option.some.inj h))
    · replace h := ite_t c4 h
      refine AR.iconst (pc := 22) (v := (-1)) dX8_swap_22 (by decide) ?_
      exact AR.iret (pc := 23) rfl dX8_swap_23 (hrI (Option.some.inj h))
noncomputable def f8_areWords_60 (k3 : Int32 × HS → Option (Int32 × HS)) (x1 : Int32) (x2 : Int32) (x3 : Int32) (x4 : Int32) (σ : HS) : Option (Int32 × HS) :=
  k3 ((x4 + 1), σ)
noncomputable def f8_areWords_3_b (k3 : Int32 × HS → Option (Int32 × HS)) (x1 : Int32) (x2 : Int32) (x3 : Int32) (x4 : Int32) (σ : HS) : Option (Int32 × HS) :=
  if (x3 : Int32) ≤ x4 then
    some (1, σ)
  else
    if (6 : Int32) ≤ x4 then
      some (1, σ)
    else
      bd (f7_valueAt x1 (x2 + x4) σ) fun r3 =>
      if (r3.1 : Int32) = (-9) then
        f8_areWords_60 k3 x1 x2 x3 x4 (r3.2)
      else
        bd (f0_whoIn 20 x4 (r3.2)) fun r5 =>
        bd (f4_hasWord (r5.1) (r3.1) (r5.2)) fun r6 =>
        if (r6.1 : Int32) = 0 then
          some (0, r6.2)
        else
          f8_areWords_60 k3 x1 x2 x3 x4 (r6.2)
noncomputable def f8_areWords_3 (x1 : Int32) (x2 : Int32) (x3 : Int32) (p : Int32 × HS) : Option (Int32 × HS) :=
  wloop (fun k3 p => f8_areWords_3_b k3 x1 x2 x3 p.1 p.2) fuelN p
noncomputable def f8_areWords (x1 : Int32) (x2 : Int32) (x3 : Int32) (σ : HS) : Option (Int32 × HS) :=
  f8_areWords_3 x1 x2 x3 (0, σ)
set_option maxHeartbeats 4000000 in
set_option maxRecDepth 100000 in
theorem A8_areWords_60 {l : Launch} (k3 : Int32 × HS → Option (Int32 × HS)) (x1 : Int32) (x2 : Int32) (x3 : Int32) (x4 : Int32) (hk3 : ∀ (p : Int32 × HS) (r : Int32 × HS), k3 p = some r → AR l RX8 cX8_areWords 6 (some .boolean) (wsU yX8_areWords cX8_areWords 6 (some .boolean)) rm8_areWords SC 3 [(0, .ref 0), (1, .int x1), (2, .int x2), (3, .int x3), (4, .int (p.1))] [] p.2 (some (.int r.1), r.2)) (σ : HS) (r : Int32 × HS) (h : f8_areWords_60 k3 x1 x2 x3 x4 σ = some r) : AR l RX8 cX8_areWords 6 (some .boolean) (wsU yX8_areWords cX8_areWords 6 (some .boolean)) rm8_areWords SC 60 [(0, .ref 0), (1, .int x1), (2, .int x2), (3, .int x3), (4, .int x4)] [] σ (some (.int r.1), r.2) := by
  unfold f8_areWords_60 at h
  refine AR.iinc (pc := 60) (j := 4) (v := (x4 + 1)) (L2 := [(4, .int (x4 + 1)), (0, .ref 0), (1, .int x1), (2, .int x2), (3, .int x3)]) dX8_areWords_60 rfl rfl (by decide) rfl ?_
  refine AR.goto (pc := 63) (tgt := 3) dX8_areWords_63 (by decide) ?_
  exact AR.pick [1, 2, 3, 4, 0] rfl (hk3 ((x4 + 1), σ) r h)
set_option maxHeartbeats 4000000 in
set_option maxRecDepth 100000 in
theorem A8_areWords_3_b {l : Launch} (k3 : Int32 × HS → Option (Int32 × HS)) (x1 : Int32) (x2 : Int32) (x3 : Int32) (x4 : Int32) (hk3 : ∀ (p : Int32 × HS) (r : Int32 × HS), k3 p = some r → AR l RX8 cX8_areWords 6 (some .boolean) (wsU yX8_areWords cX8_areWords 6 (some .boolean)) rm8_areWords SC 3 [(0, .ref 0), (1, .int x1), (2, .int x2), (3, .int x3), (4, .int (p.1))] [] p.2 (some (.int r.1), r.2)) (σ : HS) (r : Int32 × HS) (h : f8_areWords_3_b k3 x1 x2 x3 x4 σ = some r) : AR l RX8 cX8_areWords 6 (some .boolean) (wsU yX8_areWords cX8_areWords 6 (some .boolean)) rm8_areWords SC 3 [(0, .ref 0), (1, .int x1), (2, .int x2), (3, .int x3), (4, .int x4)] [] σ (some (.int r.1), r.2) := by
  unfold f8_areWords_3_b at h
  refine AR.iload (pc := 3) (j := 4) dX8_areWords_3 rfl ?_
  refine AR.iload_n (pc := 5) (j := 3) dX8_areWords_5 rfl rfl ?_
  refine AR.icmp_ge (pc := 6) (tgt := 66) dX8_areWords_6 (by decide) (fun c1 => ?_) (fun c1 => ?_)
  · replace h := ite_t c1 h
    refine AR.iconst (pc := 66) (v := 1) dX8_areWords_66 (by decide) ?_
    exact AR.zret (pc := 67) rfl (Or.inr rfl) dX8_areWords_67 (hrI (Option.some.inj h))
  · replace h := ite_f c1 h
    refine AR.iload (pc := 9) (j := 4) dX8_areWords_9 rfl ?_
    refine AR.bipush (pc := 11) (v := 6) dX8_areWords_11 (by decide) ?_
    refine AR.icmp_ge (pc := 13) (tgt := 66) dX8_areWords_13 (by decide) (fun c2 => ?_) (fun c2 => ?_)
    · replace h := ite_t c2 h
      refine AR.iconst (pc := 66) (v := 1) dX8_areWords_66 (by decide) ?_
      exact AR.zret (pc := 67) rfl (Or.inr rfl) dX8_areWords_67 (hrI (Option.some.inj h))
    · replace h := ite_f c2 h
      refine AR.aload_n (pc := 16) (j := 0) dX8_areWords_16 rfl rfl ?_
      refine AR.getf (pc := 17) (ci := 8) (j := 0) (d := 1 + 2) (v := .ref 1) (T := TX8) dX8_areWords_17 rfl rfl rfl (by decide) (fun w hw => wsU_in (uw_X8 w hw)) (wsU_in fl_X8_25) rfl ?_
      refine AR.iload_n (pc := 20) (j := 1) dX8_areWords_20 rfl rfl ?_
      refine AR.iload_n (pc := 21) (j := 2) dX8_areWords_21 rfl rfl ?_
      refine AR.iload (pc := 22) (j := 4) dX8_areWords_22 rfl ?_
      refine AR.iadd (pc := 24) dX8_areWords_24 ?_
      obtain ⟨r3, h3, h⟩ := bd_some h
      refine AR.callVN (pc := 25) (As := [.int x1, .int (x2 + x4)]) (st := []) (ci := 7) dX8_areWords_25 ⟨cd_X7_valueAt, im_X7_valueAt, se_X7_valueAt, ini_X7⟩ mn_X8_200 (A7_valueAt x1 (x2 + x4) σ _ h3) ⟨rfl, pd_X7_valueAt⟩ ⟨Nat.le_of_ble_eq_true rfl, Nat.le_of_ble_eq_true rfl⟩ ⟨rfl, rfl⟩ rfl rfl rfl (Nat.le_of_ble_eq_true rfl) ?_
      refine AR.istore (pc := 28) (L2 := [(5, .int (r3.1)), (0, .ref 0), (1, .int x1), (2, .int x2), (3, .int x3), (4, .int x4)]) dX8_areWords_28 (by decide) rfl ?_
      refine AR.iload (pc := 30) (j := 0) dX8_areWords_30 rfl ?_
      refine AR.bipush (pc := 32) (v := (-9)) dX8_areWords_32 (by decide) ?_
      refine AR.icmp_eq (pc := 34) (tgt := 60) dX8_areWords_34 (by decide) (fun c4 => ?_) (fun c4 => ?_)
      · replace h := ite_t c4 h
        exact AR.pick [1, 2, 3, 4, 5] rfl (A8_areWords_60 k3 x1 x2 x3 x4 hk3 (r3.2) r h)
      · replace h := ite_f c4 h
        refine AR.aload_n (pc := 37) (j := 1) dX8_areWords_37 rfl rfl ?_
        refine AR.getf (pc := 38) (ci := 8) (j := 1) (d := 5 + 2) (v := .ref 5) (T := TX8) dX8_areWords_38 rfl rfl rfl (by decide) (fun w hw => wsU_in (uw_X8 w hw)) (wsU_in fl_X8_32) rfl ?_
        refine AR.aload_n (pc := 41) (j := 1) dX8_areWords_41 rfl rfl ?_
        refine AR.getf (pc := 42) (ci := 8) (j := 3) (d := 20 + 2) (v := .ref 20) (T := TX8) dX8_areWords_42 rfl rfl rfl (by decide) (fun w hw => wsU_in (uw_X8 w hw)) (wsU_in fl_X8_54) rfl ?_
        refine AR.iload (pc := 45) (j := 5) dX8_areWords_45 rfl ?_
        obtain ⟨r5, h5, h⟩ := bd_some h
        refine AR.callVN (pc := 47) (As := [.int x4]) (st := [.ref 5]) (ci := 0) dX8_areWords_47 ⟨cd_X0_whoIn, im_X0_whoIn, se_X0_whoIn, ini_X0⟩ mn_X8_207 (A0_whoIn 20 grp20 x4 (r3.2) _ h5) ⟨rfl, pd_X0_whoIn⟩ ⟨Nat.le_of_ble_eq_true rfl, Nat.le_of_ble_eq_true rfl⟩ ⟨rfl, rfl⟩ rfl rfl rfl (Nat.le_of_ble_eq_true rfl) ?_
        refine AR.iload (pc := 50) (j := 0) dX8_areWords_50 rfl ?_
        obtain ⟨r6, h6, h⟩ := bd_some h
        refine AR.callVN (pc := 52) (As := [.int (r5.1), .int (r3.1)]) (st := []) (ci := 4) dX8_areWords_52 ⟨cd_X4_hasWord, im_X4_hasWord, se_X4_hasWord, ini_X4⟩ mn_X8_147 (A4_hasWord (r5.1) (r3.1) (r5.2) _ h6) ⟨rfl, pd_X4_hasWord⟩ ⟨Nat.le_of_ble_eq_true rfl, Nat.le_of_ble_eq_true rfl⟩ ⟨rfl, rfl⟩ rfl rfl rfl (Nat.le_of_ble_eq_true rfl) ?_
        refine AR.if_ne (pc := 55) (tgt := 60) dX8_areWords_55 (by decide) (fun c7 => ?_) (fun c7 => ?_)
        · replace h := ite_f c7 h
          exact AR.pick [1, 2, 3, 4, 5] rfl (A8_areWords_60 k3 x1 x2 x3 x4 hk3 (r6.2) r h)
        · replace h := ite_t c7 h
          refine AR.iconst (pc := 58) (v := 0) dX8_areWords_58 (by decide) ?_
          exact AR.zret (pc := 59) rfl (Or.inl rfl) dX8_areWords_59 (hrI (Option.some.inj h))
theorem A8_areWords_3 {l : Launch} (x1 : Int32) (x2 : Int32) (x3 : Int32) (p : Int32 × HS) (r : Int32 × HS) (h : f8_areWords_3 x1 x2 x3 p = some r) : AR l RX8 cX8_areWords 6 (some .boolean) (wsU yX8_areWords cX8_areWords 6 (some .boolean)) rm8_areWords SC 3 [(0, .ref 0), (1, .int x1), (2, .int x2), (3, .int x3), (4, .int (p.1))] [] p.2 (some (.int r.1), r.2) := by
  unfold f8_areWords_3 at h
  exact wloop_run (body := fun k3 p => f8_areWords_3_b k3 x1 x2 x3 p.1 p.2) (Q := fun p r => AR l RX8 cX8_areWords 6 (some .boolean) (wsU yX8_areWords cX8_areWords 6 (some .boolean)) rm8_areWords SC 3 [(0, .ref 0), (1, .int x1), (2, .int x2), (3, .int x3), (4, .int (p.1))] [] p.2 (some (.int r.1), r.2)) (fun k3 hk3 p r h => A8_areWords_3_b k3 x1 x2 x3 p.1 hk3 p.2 r h) fuelN p r h
set_option maxHeartbeats 4000000 in
set_option maxRecDepth 100000 in
theorem A8_areWords {l : Launch} (x1 : Int32) (x2 : Int32) (x3 : Int32) (σ : HS) (r : Int32 × HS) (h : f8_areWords x1 x2 x3 σ = some r) : MA l yX8_areWords (wsU yX8_areWords cX8_areWords 6 (some .boolean)) rm8_areWords SC [.ref 0, .int x1, .int x2, .int x3] σ (some (.int r.1), r.2) := by
  refine MA.of (L := [(0, .ref 0), (1, .int x1), (2, .int x2), (3, .int x3)]) pn_X8_areWords rfl (fun _ => Nat.le_of_ble_eq_true rfl) (fun _ => rfl) ?_
  unfold f8_areWords at h
  refine AR.iconst (pc := 0) (v := 0) dX8_areWords_0 (by decide) ?_
  refine AR.istore (pc := 1) (L2 := [(4, .int 0), (0, .ref 0), (1, .int x1), (2, .int x2), (3, .int x3)]) dX8_areWords_1 (by decide) rfl ?_
  exact AR.pick [1, 2, 3, 4, 0] rfl (A8_areWords_3 x1 x2 x3 (0, σ) r h)
noncomputable def f8_hear_73_b (k73 : Int32 × HS → Option (Int32 × HS)) (x1 : Int32) (x3 : Int32) (x4 : Int32) (x6 : Int32) (σ : HS) : Option (Int32 × HS) :=
  if (x4 : Int32) ≤ x6 then
    some (0, σ)
  else
    if (6 : Int32) ≤ x6 then
      some (0, σ)
    else
      bd (f7_valueAt x1 (x3 + x6) σ) fun r3 =>
      bd (f1_speak 20 (r3.1) (r3.2)) fun r4 =>
      k73 ((x6 + 1), r4)
noncomputable def f8_hear_73 (x1 : Int32) (x3 : Int32) (x4 : Int32) (p : Int32 × HS) : Option (Int32 × HS) :=
  wloop (fun k73 p => f8_hear_73_b k73 x1 x3 x4 p.1 p.2) fuelN p
noncomputable def f8_hear (x1 : Int32) (x2 : Int32) (x3 : Int32) (x4 : Int32) (σ : HS) : Option (Int32 × HS) :=
  bd (f7_partRefusal x1 x2 x3 x4 σ) fun r1 =>
  if (r1.1 : Int32) = 0 then
    if (((r1.2).1 5 0) : Int32) = 0 then
      some ((-3), r1.2)
    else
      bd (f0_turns 20 (r1.2)) fun r4 =>
      if (x4 : Int32) ≤ (r4.1) then
        bd (f8_areWords x1 x3 x4 (r4.2)) fun r6 =>
        if (r6.1 : Int32) = 0 then
          some ((-1), r6.2)
        else
          bd (f1_begin 20 (r6.2)) fun r8 =>
          f8_hear_73 x1 x3 x4 (0, r8)
      else
        some ((-2), r4.2)
  else
    some (r1.1, r1.2)
set_option maxHeartbeats 4000000 in
set_option maxRecDepth 100000 in
theorem A8_hear_73_b {l : Launch} (k73 : Int32 × HS → Option (Int32 × HS)) (x1 : Int32) (x3 : Int32) (x4 : Int32) (x6 : Int32) (hk73 : ∀ (p : Int32 × HS) (r : Int32 × HS), k73 p = some r → AR l RX8 cX8_hear 7 (some .int) (wsU yX8_hear cX8_hear 7 (some .int)) rm8_hear SC 73 [(0, .ref 0), (1, .int x1), (3, .int x3), (4, .int x4), (6, .int (p.1))] [] p.2 (some (.int r.1), r.2)) (σ : HS) (r : Int32 × HS) (h : f8_hear_73_b k73 x1 x3 x4 x6 σ = some r) : AR l RX8 cX8_hear 7 (some .int) (wsU yX8_hear cX8_hear 7 (some .int)) rm8_hear SC 73 [(0, .ref 0), (1, .int x1), (3, .int x3), (4, .int x4), (6, .int x6)] [] σ (some (.int r.1), r.2) := by
  unfold f8_hear_73_b at h
  refine AR.iload (pc := 73) (j := 4) dX8_hear_73 rfl ?_
  refine AR.iload (pc := 75) (j := 3) dX8_hear_75 rfl ?_
  refine AR.icmp_ge (pc := 77) (tgt := 112) dX8_hear_77 (by decide) (fun c1 => ?_) (fun c1 => ?_)
  · replace h := ite_t c1 h
    refine AR.iconst (pc := 112) (v := 0) dX8_hear_112 (by decide) ?_
    exact AR.iret (pc := 113) rfl dX8_hear_113 (hrI (Option.some.inj h))
  · replace h := ite_f c1 h
    refine AR.iload (pc := 80) (j := 4) dX8_hear_80 rfl ?_
    refine AR.bipush (pc := 82) (v := 6) dX8_hear_82 (by decide) ?_
    refine AR.icmp_ge (pc := 84) (tgt := 112) dX8_hear_84 (by decide) (fun c2 => ?_) (fun c2 => ?_)
    · replace h := ite_t c2 h
      refine AR.iconst (pc := 112) (v := 0) dX8_hear_112 (by decide) ?_
      exact AR.iret (pc := 113) rfl dX8_hear_113 (hrI (Option.some.inj h))
    · replace h := ite_f c2 h
      refine AR.aload_n (pc := 87) (j := 0) dX8_hear_87 rfl rfl ?_
      refine AR.getf (pc := 88) (ci := 8) (j := 5) (d := 27 + 2) (v := .ref 27) (T := TX8) dX8_hear_88 rfl rfl rfl (by decide) (fun w hw => wsU_in (uw_X8 w hw)) (wsU_in fl_X8_72) rfl ?_
      refine AR.aload_n (pc := 91) (j := 0) dX8_hear_91 rfl rfl ?_
      refine AR.getf (pc := 92) (ci := 8) (j := 0) (d := 1 + 2) (v := .ref 1) (T := TX8) dX8_hear_92 rfl rfl rfl (by decide) (fun w hw => wsU_in (uw_X8 w hw)) (wsU_in fl_X8_25) rfl ?_
      refine AR.iload_n (pc := 95) (j := 1) dX8_hear_95 rfl rfl ?_
      refine AR.iload_n (pc := 96) (j := 2) dX8_hear_96 rfl rfl ?_
      refine AR.iload (pc := 97) (j := 4) dX8_hear_97 rfl ?_
      refine AR.iadd (pc := 99) dX8_hear_99 ?_
      obtain ⟨r3, h3, h⟩ := bd_some h
      refine AR.callVN (pc := 100) (As := [.int x1, .int (x3 + x6)]) (st := [.ref 27]) (ci := 7) dX8_hear_100 ⟨cd_X7_valueAt, im_X7_valueAt, se_X7_valueAt, ini_X7⟩ mn_X8_200 (A7_valueAt x1 (x3 + x6) σ _ h3) ⟨rfl, pd_X7_valueAt⟩ ⟨Nat.le_of_ble_eq_true rfl, Nat.le_of_ble_eq_true rfl⟩ ⟨rfl, rfl⟩ rfl rfl rfl (Nat.le_of_ble_eq_true rfl) ?_
      obtain ⟨r4, h4, h⟩ := bd_some h
      refine AR.callVN (pc := 103) (As := [.int (r3.1)]) (st := []) (ci := 1) dX8_hear_103 ⟨cd_X1_speak, im_X1_speak, se_X1_speak, ini_X1⟩ mn_X8_203 (A1_speak 20 grp20 (r3.1) (r3.2) _ h4) ⟨rfl, pd_X1_speak⟩ ⟨Nat.le_of_ble_eq_true rfl, Nat.le_of_ble_eq_true rfl⟩ ⟨rfl, rfl⟩ rfl rfl rfl (Nat.le_of_ble_eq_true rfl) ?_
      refine AR.iinc (pc := 106) (j := 4) (v := (x6 + 1)) (L2 := [(6, .int (x6 + 1)), (0, .ref 0), (1, .int x1), (3, .int x3), (4, .int x4)]) dX8_hear_106 rfl rfl (by decide) rfl ?_
      refine AR.goto (pc := 109) (tgt := 73) dX8_hear_109 (by decide) ?_
      exact AR.pick [1, 2, 3, 4, 0] rfl (hk73 ((x6 + 1), r4) r h)
theorem A8_hear_73 {l : Launch} (x1 : Int32) (x3 : Int32) (x4 : Int32) (p : Int32 × HS) (r : Int32 × HS) (h : f8_hear_73 x1 x3 x4 p = some r) : AR l RX8 cX8_hear 7 (some .int) (wsU yX8_hear cX8_hear 7 (some .int)) rm8_hear SC 73 [(0, .ref 0), (1, .int x1), (3, .int x3), (4, .int x4), (6, .int (p.1))] [] p.2 (some (.int r.1), r.2) := by
  unfold f8_hear_73 at h
  exact wloop_run (body := fun k73 p => f8_hear_73_b k73 x1 x3 x4 p.1 p.2) (Q := fun p r => AR l RX8 cX8_hear 7 (some .int) (wsU yX8_hear cX8_hear 7 (some .int)) rm8_hear SC 73 [(0, .ref 0), (1, .int x1), (3, .int x3), (4, .int x4), (6, .int (p.1))] [] p.2 (some (.int r.1), r.2)) (fun k73 hk73 p r h => A8_hear_73_b k73 x1 x3 x4 p.1 hk73 p.2 r h) fuelN p r h
set_option maxHeartbeats 4000000 in
set_option maxRecDepth 100000 in
theorem A8_hear {l : Launch} (x1 : Int32) (x2 : Int32) (x3 : Int32) (x4 : Int32) (σ : HS) (r : Int32 × HS) (h : f8_hear x1 x2 x3 x4 σ = some r) : MA l yX8_hear (wsU yX8_hear cX8_hear 7 (some .int)) rm8_hear SC [.ref 0, .int x1, .int x2, .int x3, .int x4] σ (some (.int r.1), r.2) := by
  refine MA.of (L := [(0, .ref 0), (1, .int x1), (2, .int x2), (3, .int x3), (4, .int x4)]) pn_X8_hear rfl (fun _ => Nat.le_of_ble_eq_true rfl) (fun _ => rfl) ?_
  unfold f8_hear at h
  refine AR.aload_n (pc := 0) (j := 0) dX8_hear_0 rfl rfl ?_
  refine AR.getf (pc := 1) (ci := 8) (j := 0) (d := 1 + 2) (v := .ref 1) (T := TX8) dX8_hear_1 rfl rfl rfl (by decide) (fun w hw => wsU_in (uw_X8 w hw)) (wsU_in fl_X8_25) rfl ?_
  refine AR.iload_n (pc := 4) (j := 1) dX8_hear_4 rfl rfl ?_
  refine AR.iload_n (pc := 5) (j := 2) dX8_hear_5 rfl rfl ?_
  refine AR.iload_n (pc := 6) (j := 3) dX8_hear_6 rfl rfl ?_
  refine AR.iload (pc := 7) (j := 4) dX8_hear_7 rfl ?_
  obtain ⟨r1, h1, h⟩ := bd_some h
  refine AR.callVN (pc := 9) (As := [.int x1, .int x2, .int x3, .int x4]) (st := []) (ci := 7) dX8_hear_9 ⟨cd_X7_partRefusal, im_X7_partRefusal, se_X7_partRefusal, ini_X7⟩ mn_X8_105 (A7_partRefusal x1 x2 x3 x4 σ _ h1) ⟨rfl, pd_X7_partRefusal⟩ ⟨Nat.le_of_ble_eq_true rfl, Nat.le_of_ble_eq_true rfl⟩ ⟨rfl, rfl⟩ rfl rfl rfl (Nat.le_of_ble_eq_true rfl) ?_
  refine AR.istore (pc := 12) (L2 := [(5, .int (r1.1)), (0, .ref 0), (1, .int x1), (2, .int x2), (3, .int x3), (4, .int x4)]) dX8_hear_12 (by decide) rfl ?_
  refine AR.iload (pc := 14) (j := 0) dX8_hear_14 rfl ?_
  refine AR.if_eq (pc := 16) (tgt := 22) dX8_hear_16 (by decide) (fun c2 => ?_) (fun c2 => ?_)
  · replace h := ite_t c2 h
    refine AR.aload_n (pc := 22) (j := 1) dX8_hear_22 rfl rfl ?_
    refine AR.getf (pc := 23) (ci := 8) (j := 1) (d := 5 + 2) (v := .ref 5) (T := TX8) dX8_hear_23 rfl rfl rfl (by decide) (fun w hw => wsU_in (uw_X8 w hw)) (wsU_in fl_X8_32) rfl ?_
    refine AR.getfN (pc := 26) (ci := 4) (j := 0) (d := 0) (v := .int ((r1.2).1 5 0)) (T := TX4) dX8_hear_26 rfl rfl rfl (by decide) (fun w hw => wsU_in (uw_X4 w hw)) fn_X8_132 rfl ?_
    refine AR.if_ne (pc := 29) (tgt := 35) dX8_hear_29 (by decide) (fun c3 => ?_) (fun c3 => ?_)
    · replace h := ite_f c3 h
      refine AR.iload (pc := 35) (j := 5) dX8_hear_35 rfl ?_
      refine AR.aload_n (pc := 37) (j := 1) dX8_hear_37 rfl rfl ?_
      refine AR.getf (pc := 38) (ci := 8) (j := 3) (d := 20 + 2) (v := .ref 20) (T := TX8) dX8_hear_38 rfl rfl rfl (by decide) (fun w hw => wsU_in (uw_X8 w hw)) (wsU_in fl_X8_54) rfl ?_
      obtain ⟨r4, h4, h⟩ := bd_some h
      refine AR.callVN (pc := 41) (As := []) (st := [.int x4]) (ci := 0) dX8_hear_41 ⟨cd_X0_turns, im_X0_turns, se_X0_turns, ini_X0⟩ mn_X8_189 (A0_turns 20 grp20 (r1.2) _ h4) ⟨rfl, pd_X0_turns⟩ ⟨Nat.le_of_ble_eq_true rfl, Nat.le_of_ble_eq_true rfl⟩ ⟨rfl, rfl⟩ rfl rfl rfl (Nat.le_of_ble_eq_true rfl) ?_
      refine AR.icmp_le (pc := 44) (tgt := 50) dX8_hear_44 (by decide) (fun c5 => ?_) (fun c5 => ?_)
      · replace h := ite_t c5 h
        refine AR.aload_n (pc := 50) (j := 1) dX8_hear_50 rfl rfl ?_
        refine AR.iload_n (pc := 51) (j := 2) dX8_hear_51 rfl rfl ?_
        refine AR.iload_n (pc := 52) (j := 4) dX8_hear_52 rfl rfl ?_
        refine AR.iload (pc := 53) (j := 5) dX8_hear_53 rfl ?_
        obtain ⟨r6, h6, h⟩ := bd_some h
        refine AR.callV (pc := 55) (As := [.int x1, .int x3, .int x4]) (st := []) (ci := 8) dX8_hear_55 ⟨cd_X8_areWords, im_X8_areWords, se_X8_areWords, ini_X8⟩ ml_X8_193 (A8_areWords x1 x3 x4 (r4.2) _ h6) ⟨rfl, pd_X8_areWords⟩ ⟨Nat.le_of_ble_eq_true rfl, Nat.le_of_ble_eq_true rfl⟩ ⟨rfl, rfl⟩ rfl rfl rfl (Nat.le_of_ble_eq_true rfl) ?_
        refine AR.if_ne (pc := 58) (tgt := 63) dX8_hear_58 (by decide) (fun c7 => ?_) (fun c7 => ?_)
        · replace h := ite_f c7 h
          refine AR.aload_n (pc := 63) (j := 1) dX8_hear_63 rfl rfl ?_
          refine AR.getf (pc := 64) (ci := 8) (j := 5) (d := 27 + 2) (v := .ref 27) (T := TX8) dX8_hear_64 rfl rfl rfl (by decide) (fun w hw => wsU_in (uw_X8 w hw)) (wsU_in fl_X8_72) rfl ?_
          obtain ⟨r8, h8, h⟩ := bd_some h
          refine AR.callVN (pc := 67) (As := []) (st := []) (ci := 1) dX8_hear_67 ⟨cd_X1_begin, im_X1_begin, se_X1_begin, ini_X1⟩ mn_X8_197 (A1_begin 20 grp20 (r6.2) _ h8) ⟨rfl, pd_X1_begin⟩ ⟨Nat.le_of_ble_eq_true rfl, Nat.le_of_ble_eq_true rfl⟩ ⟨rfl, rfl⟩ rfl rfl rfl (Nat.le_of_ble_eq_true rfl) ?_
          refine AR.iconst (pc := 70) (v := 0) dX8_hear_70 (by decide) ?_
          refine AR.istore (pc := 71) (L2 := [(6, .int 0), (5, .int (r1.1)), (0, .ref 0), (1, .int x1), (2, .int x2), (3, .int x3), (4, .int x4)]) dX8_hear_71 (by decide) rfl ?_
          exact AR.pick [2, 3, 5, 6, 0] rfl (A8_hear_73 x1 x3 x4 (0, r8) r h)
        · replace h := ite_t c7 h
          refine AR.iconst (pc := 61) (v := (-1)) dX8_hear_61 (by decide) ?_
          exact AR.iret (pc := 62) rfl dX8_hear_62 (hrI (Option.some.inj h))
      · replace h := ite_f c5 h
        refine AR.bipush (pc := 47) (v := (-2)) dX8_hear_47 (by decide) ?_
        exact AR.iret (pc := 49) rfl dX8_hear_49 (hrI (Option.some.inj h))
    · replace h := ite_t c3 h
      refine AR.bipush (pc := 32) (v := (-3)) dX8_hear_32 (by decide) ?_
      exact AR.iret (pc := 34) rfl dX8_hear_34 (hrI (Option.some.inj h))
  · replace h := ite_f c2 h
    refine AR.iload (pc := 19) (j := 0) dX8_hear_19 rfl ?_
    exact AR.iret (pc := 21) rfl dX8_hear_21 (hrI (Option.some.inj h))
noncomputable def f8_judge (x1 : Int32) (x2 : Int32) (x3 : Int32) (x4 : Int32) (x5 : Int32) (σ : HS) : Option (Int32 × HS) :=
  bd (f8_hear x1 x2 x3 x4 σ) fun r1 =>
  if (r1.1 : Int32) = 0 then
    if (x5 : Int32) = 0 then
      bd (f8_told ((r1.2).1 27 7) (r1.2)) fun r4 =>
      some (r4.1, r4.2)
    else
      if (x5 : Int32) = 1 then
        bd (f8_told ((r1.2).1 27 8) (r1.2)) fun r6 =>
        some (r6.1, r6.2)
      else
        if (x5 : Int32) = 2 then
          bd (f8_told ((r1.2).1 27 6) (r1.2)) fun r8 =>
          some (r8.1, r8.2)
        else
          bd (f8_told (-2) (r1.2)) fun r9 =>
          some (r9.1, r9.2)
  else
    bd (f8_told (r1.1) (r1.2)) fun r10 =>
    some (r10.1, r10.2)
set_option maxHeartbeats 4000000 in
set_option maxRecDepth 100000 in
theorem A8_judge {l : Launch} (x1 : Int32) (x2 : Int32) (x3 : Int32) (x4 : Int32) (x5 : Int32) (σ : HS) (r : Int32 × HS) (h : f8_judge x1 x2 x3 x4 x5 σ = some r) : MA l yX8_judge (wsU yX8_judge cX8_judge 7 (some .int)) rm8_judge SC [.ref 0, .int x1, .int x2, .int x3, .int x4, .int x5] σ (some (.int r.1), r.2) := by
  refine MA.of (L := [(0, .ref 0), (1, .int x1), (2, .int x2), (3, .int x3), (4, .int x4), (5, .int x5)]) pn_X8_judge rfl (fun _ => Nat.le_of_ble_eq_true rfl) (fun _ => rfl) ?_
  unfold f8_judge at h
  refine AR.aload_n (pc := 0) (j := 0) dX8_judge_0 rfl rfl ?_
  refine AR.iload_n (pc := 1) (j := 1) dX8_judge_1 rfl rfl ?_
  refine AR.iload_n (pc := 2) (j := 2) dX8_judge_2 rfl rfl ?_
  refine AR.iload_n (pc := 3) (j := 3) dX8_judge_3 rfl rfl ?_
  refine AR.iload (pc := 4) (j := 4) dX8_judge_4 rfl ?_
  obtain ⟨r1, h1, h⟩ := bd_some h
  refine AR.callV (pc := 6) (As := [.int x1, .int x2, .int x3, .int x4]) (st := []) (ci := 8) dX8_judge_6 ⟨cd_X8_hear, im_X8_hear, se_X8_hear, ini_X8⟩ ml_X8_173 (A8_hear x1 x2 x3 x4 σ _ h1) ⟨rfl, pd_X8_hear⟩ ⟨Nat.le_of_ble_eq_true rfl, Nat.le_of_ble_eq_true rfl⟩ ⟨rfl, rfl⟩ rfl rfl rfl (Nat.le_of_ble_eq_true rfl) ?_
  refine AR.istore (pc := 9) (L2 := [(6, .int (r1.1)), (0, .ref 0), (1, .int x1), (2, .int x2), (3, .int x3), (4, .int x4), (5, .int x5)]) dX8_judge_9 (by decide) rfl ?_
  refine AR.iload (pc := 11) (j := 0) dX8_judge_11 rfl ?_
  refine AR.if_eq (pc := 13) (tgt := 23) dX8_judge_13 (by decide) (fun c2 => ?_) (fun c2 => ?_)
  · replace h := ite_t c2 h
    refine AR.iload (pc := 23) (j := 6) dX8_judge_23 rfl ?_
    by_cases c3 : (x5 : Int32) = 0
    · replace h := ite_t c3 h
      refine AR.tableIn (pc := 25) (off := 27) (tgt := 52) dX8_judge_25 (by rw [c3]; decide) (by rw [c3]; decide) (by rw [c3]; rfl) (by decide) ?_
      refine AR.aload_n (pc := 52) (j := 1) dX8_judge_52 rfl rfl ?_
      refine AR.aload_n (pc := 53) (j := 1) dX8_judge_53 rfl rfl ?_
      refine AR.getf (pc := 54) (ci := 8) (j := 5) (d := 27 + 2) (v := .ref 27) (T := TX8) dX8_judge_54 rfl rfl rfl (by decide) (fun w hw => wsU_in (uw_X8 w hw)) (wsU_in fl_X8_72) rfl ?_
      refine AR.getfN (pc := 57) (ci := 1) (j := 7) (d := 0) (v := .int ((r1.2).1 27 7)) (T := TX1) dX8_judge_57 rfl rfl rfl (by decide) (fun w hw => wsU_in (uw_X1 w hw)) fn_X8_176 rfl ?_
      obtain ⟨r4, h4, h⟩ := bd_some h
      refine AR.callV (pc := 60) (As := [.int ((r1.2).1 27 7)]) (st := []) (ci := 8) dX8_judge_60 ⟨cd_X8_told, im_X8_told, se_X8_told, ini_X8⟩ ml_X8_109 (A8_told ((r1.2).1 27 7) (r1.2) _ h4) ⟨rfl, pd_X8_told⟩ ⟨Nat.le_of_ble_eq_true rfl, Nat.le_of_ble_eq_true rfl⟩ ⟨rfl, rfl⟩ rfl rfl rfl (Nat.le_of_ble_eq_true rfl) ?_
      exact AR.iret (pc := 63) rfl dX8_judge_63 (hrI (Option.some.inj h))
    · replace h := ite_f c3 h
      by_cases c5 : (x5 : Int32) = 1
      · replace h := ite_t c5 h
        refine AR.tableIn (pc := 25) (off := 39) (tgt := 64) dX8_judge_25 (by rw [c5]; decide) (by rw [c5]; decide) (by rw [c5]; rfl) (by decide) ?_
        refine AR.aload_n (pc := 64) (j := 1) dX8_judge_64 rfl rfl ?_
        refine AR.aload_n (pc := 65) (j := 1) dX8_judge_65 rfl rfl ?_
        refine AR.getf (pc := 66) (ci := 8) (j := 5) (d := 27 + 2) (v := .ref 27) (T := TX8) dX8_judge_66 rfl rfl rfl (by decide) (fun w hw => wsU_in (uw_X8 w hw)) (wsU_in fl_X8_72) rfl ?_
        refine AR.getfN (pc := 69) (ci := 1) (j := 8) (d := 0) (v := .int ((r1.2).1 27 8)) (T := TX1) dX8_judge_69 rfl rfl rfl (by decide) (fun w hw => wsU_in (uw_X1 w hw)) fn_X8_179 rfl ?_
        obtain ⟨r6, h6, h⟩ := bd_some h
        refine AR.callV (pc := 72) (As := [.int ((r1.2).1 27 8)]) (st := []) (ci := 8) dX8_judge_72 ⟨cd_X8_told, im_X8_told, se_X8_told, ini_X8⟩ ml_X8_109 (A8_told ((r1.2).1 27 8) (r1.2) _ h6) ⟨rfl, pd_X8_told⟩ ⟨Nat.le_of_ble_eq_true rfl, Nat.le_of_ble_eq_true rfl⟩ ⟨rfl, rfl⟩ rfl rfl rfl (Nat.le_of_ble_eq_true rfl) ?_
        exact AR.iret (pc := 75) rfl dX8_judge_75 (hrI (Option.some.inj h))
      · replace h := ite_f c5 h
        by_cases c7 : (x5 : Int32) = 2
        · replace h := ite_t c7 h
          refine AR.tableIn (pc := 25) (off := 51) (tgt := 76) dX8_judge_25 (by rw [c7]; decide) (by rw [c7]; decide) (by rw [c7]; rfl) (by decide) ?_
          refine AR.aload_n (pc := 76) (j := 1) dX8_judge_76 rfl rfl ?_
          refine AR.aload_n (pc := 77) (j := 1) dX8_judge_77 rfl rfl ?_
          refine AR.getf (pc := 78) (ci := 8) (j := 5) (d := 27 + 2) (v := .ref 27) (T := TX8) dX8_judge_78 rfl rfl rfl (by decide) (fun w hw => wsU_in (uw_X8 w hw)) (wsU_in fl_X8_72) rfl ?_
          refine AR.getfN (pc := 81) (ci := 1) (j := 6) (d := 0) (v := .int ((r1.2).1 27 6)) (T := TX1) dX8_judge_81 rfl rfl rfl (by decide) (fun w hw => wsU_in (uw_X1 w hw)) fn_X8_182 rfl ?_
          obtain ⟨r8, h8, h⟩ := bd_some h
          refine AR.callV (pc := 84) (As := [.int ((r1.2).1 27 6)]) (st := []) (ci := 8) dX8_judge_84 ⟨cd_X8_told, im_X8_told, se_X8_told, ini_X8⟩ ml_X8_109 (A8_told ((r1.2).1 27 6) (r1.2) _ h8) ⟨rfl, pd_X8_told⟩ ⟨Nat.le_of_ble_eq_true rfl, Nat.le_of_ble_eq_true rfl⟩ ⟨rfl, rfl⟩ rfl rfl rfl (Nat.le_of_ble_eq_true rfl) ?_
          exact AR.iret (pc := 87) rfl dX8_judge_87 (hrI (Option.some.inj h))
        · replace h := ite_f c7 h
          refine AR.tableOut (pc := 25) (tgt := 88) dX8_judge_25 (tsw3 c3 c5 c7) (by decide) ?_
          refine AR.aload_n (pc := 88) (j := 1) dX8_judge_88 rfl rfl ?_
          refine AR.bipush (pc := 89) (v := (-2)) dX8_judge_89 (by decide) ?_
          obtain ⟨r9, h9, h⟩ := bd_some h
          refine AR.callV (pc := 91) (As := [.int (-2)]) (st := []) (ci := 8) dX8_judge_91 ⟨cd_X8_told, im_X8_told, se_X8_told, ini_X8⟩ ml_X8_109 (A8_told (-2) (r1.2) _ h9) ⟨rfl, pd_X8_told⟩ ⟨Nat.le_of_ble_eq_true rfl, Nat.le_of_ble_eq_true rfl⟩ ⟨rfl, rfl⟩ rfl rfl rfl (Nat.le_of_ble_eq_true rfl) ?_
          exact AR.iret (pc := 94) rfl dX8_judge_94 (hrI (Option.some.inj h))
  · replace h := ite_f c2 h
    refine AR.aload_n (pc := 16) (j := 1) dX8_judge_16 rfl rfl ?_
    refine AR.iload (pc := 17) (j := 0) dX8_judge_17 rfl ?_
    obtain ⟨r10, h10, h⟩ := bd_some h
    refine AR.callV (pc := 19) (As := [.int (r1.1)]) (st := []) (ci := 8) dX8_judge_19 ⟨cd_X8_told, im_X8_told, se_X8_told, ini_X8⟩ ml_X8_109 (A8_told (r1.1) (r1.2) _ h10) ⟨rfl, pd_X8_told⟩ ⟨Nat.le_of_ble_eq_true rfl, Nat.le_of_ble_eq_true rfl⟩ ⟨rfl, rfl⟩ rfl rfl rfl (Nat.le_of_ble_eq_true rfl) ?_
    exact AR.iret (pc := 22) rfl dX8_judge_22 (hrI (Option.some.inj h))
noncomputable def f8_worthOf_52 (z0 : Int32) (σ : HS) : Option (Int32 × HS) :=
  bd (f8_told z0 σ) fun r1 =>
  some (r1.1, r1.2)
noncomputable def f8_worthOf (x1 : Int32) (x2 : Int32) (x3 : Int32) (x4 : Int32) (x5 : Int32) (σ : HS) : Option (Int32 × HS) :=
  bd (f8_hear x1 x2 x3 x4 σ) fun r1 =>
  if (r1.1 : Int32) = 0 then
    bd (f4_has x5 (r1.2)) fun r3 =>
    if (r3.1 : Int32) = 0 then
      f8_worthOf_52 (-1) (r3.2)
    else
      bd (f8_worthIn ((r3.2).2 27 9) x5 (r3.2)) fun r5 =>
      f8_worthOf_52 (r5.1) (r5.2)
  else
    bd (f8_told (r1.1) (r1.2)) fun r6 =>
    some (r6.1, r6.2)
set_option maxHeartbeats 4000000 in
set_option maxRecDepth 100000 in
theorem A8_worthOf_52 {l : Launch} (z0 : Int32) (σ : HS) (r : Int32 × HS) (h : f8_worthOf_52 z0 σ = some r) : AR l RX8 cX8_worthOf 7 (some .int) (wsU yX8_worthOf cX8_worthOf 7 (some .int)) rm8_worthOf SC 52 [] [.int z0, .ref 0] σ (some (.int r.1), r.2) := by
  unfold f8_worthOf_52 at h
  obtain ⟨r1, h1, h⟩ := bd_some h
  refine AR.callV (pc := 52) (As := [.int z0]) (st := []) (ci := 8) dX8_worthOf_52 ⟨cd_X8_told, im_X8_told, se_X8_told, ini_X8⟩ ml_X8_109 (A8_told z0 σ _ h1) ⟨rfl, pd_X8_told⟩ ⟨Nat.le_of_ble_eq_true rfl, Nat.le_of_ble_eq_true rfl⟩ ⟨rfl, rfl⟩ rfl rfl rfl (Nat.le_of_ble_eq_true rfl) ?_
  exact AR.iret (pc := 55) rfl dX8_worthOf_55 (hrI (Option.some.inj h))
set_option maxHeartbeats 4000000 in
set_option maxRecDepth 100000 in
theorem A8_worthOf {l : Launch} (x1 : Int32) (x2 : Int32) (x3 : Int32) (x4 : Int32) (x5 : Int32) (σ : HS) (r : Int32 × HS) (h : f8_worthOf x1 x2 x3 x4 x5 σ = some r) : MA l yX8_worthOf (wsU yX8_worthOf cX8_worthOf 7 (some .int)) rm8_worthOf SC [.ref 0, .int x1, .int x2, .int x3, .int x4, .int x5] σ (some (.int r.1), r.2) := by
  refine MA.of (L := [(0, .ref 0), (1, .int x1), (2, .int x2), (3, .int x3), (4, .int x4), (5, .int x5)]) pn_X8_worthOf rfl (fun _ => Nat.le_of_ble_eq_true rfl) (fun _ => rfl) ?_
  unfold f8_worthOf at h
  refine AR.aload_n (pc := 0) (j := 0) dX8_worthOf_0 rfl rfl ?_
  refine AR.iload_n (pc := 1) (j := 1) dX8_worthOf_1 rfl rfl ?_
  refine AR.iload_n (pc := 2) (j := 2) dX8_worthOf_2 rfl rfl ?_
  refine AR.iload_n (pc := 3) (j := 3) dX8_worthOf_3 rfl rfl ?_
  refine AR.iload (pc := 4) (j := 4) dX8_worthOf_4 rfl ?_
  obtain ⟨r1, h1, h⟩ := bd_some h
  refine AR.callV (pc := 6) (As := [.int x1, .int x2, .int x3, .int x4]) (st := []) (ci := 8) dX8_worthOf_6 ⟨cd_X8_hear, im_X8_hear, se_X8_hear, ini_X8⟩ ml_X8_173 (A8_hear x1 x2 x3 x4 σ _ h1) ⟨rfl, pd_X8_hear⟩ ⟨Nat.le_of_ble_eq_true rfl, Nat.le_of_ble_eq_true rfl⟩ ⟨rfl, rfl⟩ rfl rfl rfl (Nat.le_of_ble_eq_true rfl) ?_
  refine AR.istore (pc := 9) (L2 := [(6, .int (r1.1)), (0, .ref 0), (1, .int x1), (2, .int x2), (3, .int x3), (4, .int x4), (5, .int x5)]) dX8_worthOf_9 (by decide) rfl ?_
  refine AR.iload (pc := 11) (j := 0) dX8_worthOf_11 rfl ?_
  refine AR.if_eq (pc := 13) (tgt := 23) dX8_worthOf_13 (by decide) (fun c2 => ?_) (fun c2 => ?_)
  · replace h := ite_t c2 h
    refine AR.aload_n (pc := 23) (j := 1) dX8_worthOf_23 rfl rfl ?_
    refine AR.aload_n (pc := 24) (j := 1) dX8_worthOf_24 rfl rfl ?_
    refine AR.getf (pc := 25) (ci := 8) (j := 1) (d := 5 + 2) (v := .ref 5) (T := TX8) dX8_worthOf_25 rfl rfl rfl (by decide) (fun w hw => wsU_in (uw_X8 w hw)) (wsU_in fl_X8_32) rfl ?_
    refine AR.iload (pc := 28) (j := 6) dX8_worthOf_28 rfl ?_
    obtain ⟨r3, h3, h⟩ := bd_some h
    refine AR.callVN (pc := 30) (As := [.int x5]) (st := [.ref 0]) (ci := 4) dX8_worthOf_30 ⟨cd_X4_has, im_X4_has, se_X4_has, ini_X4⟩ mn_X8_135 (A4_has x5 (r1.2) _ h3) ⟨rfl, pd_X4_has⟩ ⟨Nat.le_of_ble_eq_true rfl, Nat.le_of_ble_eq_true rfl⟩ ⟨rfl, rfl⟩ rfl rfl rfl (Nat.le_of_ble_eq_true rfl) ?_
    refine AR.if_eq (pc := 33) (tgt := 51) dX8_worthOf_33 (by decide) (fun c4 => ?_) (fun c4 => ?_)
    · replace h := ite_t c4 h
      refine AR.iconst (pc := 51) (v := (-1)) dX8_worthOf_51 (by decide) ?_
      exact AR.pick [] rfl (A8_worthOf_52 (-1) (r3.2) r h)
    · replace h := ite_f c4 h
      refine AR.aload_n (pc := 36) (j := 1) dX8_worthOf_36 rfl rfl ?_
      refine AR.getf (pc := 37) (ci := 8) (j := 5) (d := 27 + 2) (v := .ref 27) (T := TX8) dX8_worthOf_37 rfl rfl rfl (by decide) (fun w hw => wsU_in (uw_X8 w hw)) (wsU_in fl_X8_72) rfl ?_
      refine AR.getfN (pc := 40) (ci := 1) (j := 9) (d := 1) (v := .long ((r3.2).2 27 9)) (T := TX1) dX8_worthOf_40 rfl rfl rfl (by decide) (fun w hw => wsU_in (uw_X1 w hw)) fn_X8_185 rfl ?_
      refine AR.iload (pc := 43) (j := 6) dX8_worthOf_43 rfl ?_
      obtain ⟨r5, h5, h⟩ := bd_some h
      refine AR.callS (pc := 45) (As := [.long ((r3.2).2 27 9), .int x5]) (st := [.ref 0]) dX8_worthOf_45 ⟨cd_X8_worthIn, sm_X8_worthIn, ini_X8⟩ ml_X8_101 (A8_worthIn ((r3.2).2 27 9) x5 (r3.2) _ h5) ⟨rfl, pd_X8_worthIn⟩ ⟨Nat.le_of_ble_eq_true rfl, Nat.le_of_ble_eq_true rfl⟩ ⟨rfl, rfl⟩ rfl (Nat.le_of_ble_eq_true rfl) ?_
      refine AR.goto (pc := 48) (tgt := 52) dX8_worthOf_48 (by decide) ?_
      exact AR.pick [] rfl (A8_worthOf_52 (r5.1) (r5.2) r h)
  · replace h := ite_f c2 h
    refine AR.aload_n (pc := 16) (j := 1) dX8_worthOf_16 rfl rfl ?_
    refine AR.iload (pc := 17) (j := 0) dX8_worthOf_17 rfl ?_
    obtain ⟨r6, h6, h⟩ := bd_some h
    refine AR.callV (pc := 19) (As := [.int (r1.1)]) (st := []) (ci := 8) dX8_worthOf_19 ⟨cd_X8_told, im_X8_told, se_X8_told, ini_X8⟩ ml_X8_109 (A8_told (r1.1) (r1.2) _ h6) ⟨rfl, pd_X8_told⟩ ⟨Nat.le_of_ble_eq_true rfl, Nat.le_of_ble_eq_true rfl⟩ ⟨rfl, rfl⟩ rfl rfl rfl (Nat.le_of_ble_eq_true rfl) ?_
    exact AR.iret (pc := 22) rfl dX8_worthOf_22 (hrI (Option.some.inj h))
noncomputable def f8_planAhead (σ : HS) : Option (HS) :=
  if ((σ.1 0 11) : Int32) = 0 then
    bd (f5_makeForEach σ) fun r2 =>
    some (uI r2 0 11 1)
  else
    some σ
set_option maxHeartbeats 4000000 in
set_option maxRecDepth 100000 in
theorem A8_planAhead {l : Launch} (σ : HS) (r : HS) (h : f8_planAhead σ = some r) : MA l yX8_planAhead (wsU yX8_planAhead cX8_planAhead 1 none) rm8_planAhead SC [.ref 0] σ (none, r) := by
  refine MA.of (L := [(0, .ref 0)]) pn_X8_planAhead rfl (fun _ => Nat.le_of_ble_eq_true rfl) (fun _ => rfl) ?_
  unfold f8_planAhead at h
  refine AR.aload_n (pc := 0) (j := 0) dX8_planAhead_0 rfl rfl ?_
  refine AR.getf (pc := 1) (ci := 8) (j := 11) (d := 0) (v := .int (σ.1 0 11)) (T := TX8) dX8_planAhead_1 rfl rfl rfl (by decide) (fun w hw => wsU_in (uw_X8 w hw)) (wsU_in fl_X8_11) rfl ?_
  refine AR.if_ne (pc := 4) (tgt := 19) dX8_planAhead_4 (by decide) (fun c1 => ?_) (fun c1 => ?_)
  · replace h := ite_f c1 h
    exact AR.vret (pc := 19) rfl dX8_planAhead_19 (hrV (Option.some.inj h))
  · replace h := ite_t c1 h
    refine AR.aload_n (pc := 7) (j := 0) dX8_planAhead_7 rfl rfl ?_
    refine AR.getf (pc := 8) (ci := 8) (j := 4) (d := 22 + 2) (v := .ref 22) (T := TX8) dX8_planAhead_8 rfl rfl rfl (by decide) (fun w hw => wsU_in (uw_X8 w hw)) (wsU_in fl_X8_63) rfl ?_
    obtain ⟨r2, h2, h⟩ := bd_some h
    refine AR.callVN (pc := 11) (As := []) (st := []) (ci := 5) dX8_planAhead_11 ⟨cd_X5_makeForEach, im_X5_makeForEach, se_X5_makeForEach, ini_X5⟩ mn_X8_241 (A5_makeForEach σ _ h2) ⟨rfl, pd_X5_makeForEach⟩ ⟨Nat.le_of_ble_eq_true rfl, Nat.le_of_ble_eq_true rfl⟩ ⟨rfl, rfl⟩ rfl rfl rfl (Nat.le_of_ble_eq_true rfl) ?_
    refine AR.aload_n (pc := 14) (j := 0) dX8_planAhead_14 rfl rfl ?_
    refine AR.iconst (pc := 15) (v := 1) dX8_planAhead_15 (by decide) ?_
    refine AR.putI (pc := 16) (ci := 8) (j := 11) (T := TX8) (ty0 := tyX8) (ty := .boolean) dX8_planAhead_16 rfl rfl rfl (by decide) (fun w hw => wsU_in (uw_X8 w hw)) tyX8_ok nmX8 (wsU_in fl_X8_11) rfl (by decide +kernel) rfl rfl ?_
    exact AR.vret (pc := 19) rfl dX8_planAhead_19 (hrV (Option.some.inj h))
noncomputable def f8_choice (x1 : Int32) (x2 : Int32) (σ : HS) : Option (Int32 × HS) :=
  bd (f0_hasTurn x1 σ) fun r1 =>
  if (r1.1 : Int32) = 0 then
    some ((-1), r1.2)
  else
    if (x2 : Int32) < 0 then
      some ((-2), r1.2)
    else
      if (x2 : Int32) ≤ ((r1.2).1 5 1) then
        bd (f8_planAhead (r1.2)) fun r5 =>
        bd (f5_wordAt 20 x1 x2 r5) fun r6 =>
        some (r6.1, r6.2)
      else
        some ((-2), r1.2)
set_option maxHeartbeats 4000000 in
set_option maxRecDepth 100000 in
theorem A8_choice {l : Launch} (x1 : Int32) (x2 : Int32) (σ : HS) (r : Int32 × HS) (h : f8_choice x1 x2 σ = some r) : MA l yX8_choice (wsU yX8_choice cX8_choice 3 (some .int)) rm8_choice SC [.ref 0, .int x1, .int x2] σ (some (.int r.1), r.2) := by
  refine MA.of (L := [(0, .ref 0), (1, .int x1), (2, .int x2)]) pn_X8_choice rfl (fun _ => Nat.le_of_ble_eq_true rfl) (fun _ => rfl) ?_
  unfold f8_choice at h
  refine AR.aload_n (pc := 0) (j := 0) dX8_choice_0 rfl rfl ?_
  refine AR.getf (pc := 1) (ci := 8) (j := 3) (d := 20 + 2) (v := .ref 20) (T := TX8) dX8_choice_1 rfl rfl rfl (by decide) (fun w hw => wsU_in (uw_X8 w hw)) (wsU_in fl_X8_54) rfl ?_
  refine AR.iload_n (pc := 4) (j := 1) dX8_choice_4 rfl rfl ?_
  obtain ⟨r1, h1, h⟩ := bd_some h
  refine AR.callVN (pc := 5) (As := [.int x1]) (st := []) (ci := 0) dX8_choice_5 ⟨cd_X0_hasTurn, im_X0_hasTurn, se_X0_hasTurn, ini_X0⟩ mn_X8_210 (A0_hasTurn x1 σ _ h1) ⟨rfl, pd_X0_hasTurn⟩ ⟨Nat.le_of_ble_eq_true rfl, Nat.le_of_ble_eq_true rfl⟩ ⟨rfl, rfl⟩ rfl rfl rfl (Nat.le_of_ble_eq_true rfl) ?_
  refine AR.if_ne (pc := 8) (tgt := 13) dX8_choice_8 (by decide) (fun c2 => ?_) (fun c2 => ?_)
  · replace h := ite_f c2 h
    refine AR.iload_n (pc := 13) (j := 2) dX8_choice_13 rfl rfl ?_
    refine AR.if_lt (pc := 14) (tgt := 28) dX8_choice_14 (by decide) (fun c3 => ?_) (fun c3 => ?_)
    · replace h := ite_t c3 h
      refine AR.bipush (pc := 28) (v := (-2)) dX8_choice_28 (by decide) ?_
      exact AR.iret (pc := 30) rfl dX8_choice_30 (hrI (Option.some.inj h))
    · replace h := ite_f c3 h
      refine AR.iload_n (pc := 17) (j := 2) dX8_choice_17 rfl rfl ?_
      refine AR.aload_n (pc := 18) (j := 0) dX8_choice_18 rfl rfl ?_
      refine AR.getf (pc := 19) (ci := 8) (j := 1) (d := 5 + 2) (v := .ref 5) (T := TX8) dX8_choice_19 rfl rfl rfl (by decide) (fun w hw => wsU_in (uw_X8 w hw)) (wsU_in fl_X8_32) rfl ?_
      refine AR.getfN (pc := 22) (ci := 4) (j := 1) (d := 0) (v := .int ((r1.2).1 5 1)) (T := TX4) dX8_choice_22 rfl rfl rfl (by decide) (fun w hw => wsU_in (uw_X4 w hw)) fn_X8_213 rfl ?_
      refine AR.icmp_le (pc := 25) (tgt := 31) dX8_choice_25 (by decide) (fun c4 => ?_) (fun c4 => ?_)
      · replace h := ite_t c4 h
        refine AR.aload_n (pc := 31) (j := 0) dX8_choice_31 rfl rfl ?_
        obtain ⟨r5, h5, h⟩ := bd_some h
        refine AR.callV (pc := 32) (As := []) (st := []) (ci := 8) dX8_choice_32 ⟨cd_X8_planAhead, im_X8_planAhead, se_X8_planAhead, ini_X8⟩ ml_X8_216 (A8_planAhead (r1.2) _ h5) ⟨rfl, pd_X8_planAhead⟩ ⟨Nat.le_of_ble_eq_true rfl, Nat.le_of_ble_eq_true rfl⟩ ⟨rfl, rfl⟩ rfl rfl rfl (Nat.le_of_ble_eq_true rfl) ?_
        refine AR.aload_n (pc := 35) (j := 0) dX8_choice_35 rfl rfl ?_
        refine AR.getf (pc := 36) (ci := 8) (j := 4) (d := 22 + 2) (v := .ref 22) (T := TX8) dX8_choice_36 rfl rfl rfl (by decide) (fun w hw => wsU_in (uw_X8 w hw)) (wsU_in fl_X8_63) rfl ?_
        refine AR.iload_n (pc := 39) (j := 1) dX8_choice_39 rfl rfl ?_
        refine AR.iload_n (pc := 40) (j := 2) dX8_choice_40 rfl rfl ?_
        obtain ⟨r6, h6, h⟩ := bd_some h
        refine AR.callVN (pc := 41) (As := [.int x1, .int x2]) (st := []) (ci := 5) dX8_choice_41 ⟨cd_X5_wordAt, im_X5_wordAt, se_X5_wordAt, ini_X5⟩ mn_X8_219 (A5_wordAt 20 grp20 x1 x2 r5 _ h6) ⟨rfl, pd_X5_wordAt⟩ ⟨Nat.le_of_ble_eq_true rfl, Nat.le_of_ble_eq_true rfl⟩ ⟨rfl, rfl⟩ rfl rfl rfl (Nat.le_of_ble_eq_true rfl) ?_
        exact AR.iret (pc := 44) rfl dX8_choice_44 (hrI (Option.some.inj h))
      · replace h := ite_f c4 h
        refine AR.bipush (pc := 28) (v := (-2)) dX8_choice_28 (by decide) ?_
        exact AR.iret (pc := 30) rfl dX8_choice_30 (hrI (Option.some.inj h))
  · replace h := ite_t c2 h
    refine AR.iconst (pc := 11) (v := (-1)) dX8_choice_11 (by decide) ?_
    exact AR.iret (pc := 12) rfl dX8_choice_12 (hrI (Option.some.inj h))
noncomputable def f8_says (x1 : Int32) (σ : HS) : Option (Int32 × HS) :=
  bd (f0_hasTurn x1 σ) fun r1 =>
  if (r1.1 : Int32) = 0 then
    some ((-1), r1.2)
  else
    bd (f8_planAhead (r1.2)) fun r3 =>
    bd (f1_goFreely 20 r3) fun r4 =>
    bd (f1_saidIn 20 x1 r4) fun r5 =>
    some (r5.1, r5.2)
set_option maxHeartbeats 4000000 in
set_option maxRecDepth 100000 in
theorem A8_says {l : Launch} (x1 : Int32) (σ : HS) (r : Int32 × HS) (h : f8_says x1 σ = some r) : MA l yX8_says (wsU yX8_says cX8_says 2 (some .int)) rm8_says SC [.ref 0, .int x1] σ (some (.int r.1), r.2) := by
  refine MA.of (L := [(0, .ref 0), (1, .int x1)]) pn_X8_says rfl (fun _ => Nat.le_of_ble_eq_true rfl) (fun _ => rfl) ?_
  unfold f8_says at h
  refine AR.aload_n (pc := 0) (j := 0) dX8_says_0 rfl rfl ?_
  refine AR.getf (pc := 1) (ci := 8) (j := 3) (d := 20 + 2) (v := .ref 20) (T := TX8) dX8_says_1 rfl rfl rfl (by decide) (fun w hw => wsU_in (uw_X8 w hw)) (wsU_in fl_X8_54) rfl ?_
  refine AR.iload_n (pc := 4) (j := 1) dX8_says_4 rfl rfl ?_
  obtain ⟨r1, h1, h⟩ := bd_some h
  refine AR.callVN (pc := 5) (As := [.int x1]) (st := []) (ci := 0) dX8_says_5 ⟨cd_X0_hasTurn, im_X0_hasTurn, se_X0_hasTurn, ini_X0⟩ mn_X8_210 (A0_hasTurn x1 σ _ h1) ⟨rfl, pd_X0_hasTurn⟩ ⟨Nat.le_of_ble_eq_true rfl, Nat.le_of_ble_eq_true rfl⟩ ⟨rfl, rfl⟩ rfl rfl rfl (Nat.le_of_ble_eq_true rfl) ?_
  refine AR.if_ne (pc := 8) (tgt := 13) dX8_says_8 (by decide) (fun c2 => ?_) (fun c2 => ?_)
  · replace h := ite_f c2 h
    refine AR.aload_n (pc := 13) (j := 0) dX8_says_13 rfl rfl ?_
    obtain ⟨r3, h3, h⟩ := bd_some h
    refine AR.callV (pc := 14) (As := []) (st := []) (ci := 8) dX8_says_14 ⟨cd_X8_planAhead, im_X8_planAhead, se_X8_planAhead, ini_X8⟩ ml_X8_216 (A8_planAhead (r1.2) _ h3) ⟨rfl, pd_X8_planAhead⟩ ⟨Nat.le_of_ble_eq_true rfl, Nat.le_of_ble_eq_true rfl⟩ ⟨rfl, rfl⟩ rfl rfl rfl (Nat.le_of_ble_eq_true rfl) ?_
    refine AR.aload_n (pc := 17) (j := 0) dX8_says_17 rfl rfl ?_
    refine AR.getf (pc := 18) (ci := 8) (j := 5) (d := 27 + 2) (v := .ref 27) (T := TX8) dX8_says_18 rfl rfl rfl (by decide) (fun w hw => wsU_in (uw_X8 w hw)) (wsU_in fl_X8_72) rfl ?_
    obtain ⟨r4, h4, h⟩ := bd_some h
    refine AR.callVN (pc := 21) (As := []) (st := []) (ci := 1) dX8_says_21 ⟨cd_X1_goFreely, im_X1_goFreely, se_X1_goFreely, ini_X1⟩ mn_X8_222 (A1_goFreely 20 grp20 r3 _ h4) ⟨rfl, pd_X1_goFreely⟩ ⟨Nat.le_of_ble_eq_true rfl, Nat.le_of_ble_eq_true rfl⟩ ⟨rfl, rfl⟩ rfl rfl rfl (Nat.le_of_ble_eq_true rfl) ?_
    refine AR.aload_n (pc := 24) (j := 0) dX8_says_24 rfl rfl ?_
    refine AR.getf (pc := 25) (ci := 8) (j := 5) (d := 27 + 2) (v := .ref 27) (T := TX8) dX8_says_25 rfl rfl rfl (by decide) (fun w hw => wsU_in (uw_X8 w hw)) (wsU_in fl_X8_72) rfl ?_
    refine AR.iload_n (pc := 28) (j := 1) dX8_says_28 rfl rfl ?_
    obtain ⟨r5, h5, h⟩ := bd_some h
    refine AR.callVN (pc := 29) (As := [.int x1]) (st := []) (ci := 1) dX8_says_29 ⟨cd_X1_saidIn, im_X1_saidIn, se_X1_saidIn, ini_X1⟩ mn_X8_225 (A1_saidIn 20 grp20 x1 r4 _ h5) ⟨rfl, pd_X1_saidIn⟩ ⟨Nat.le_of_ble_eq_true rfl, Nat.le_of_ble_eq_true rfl⟩ ⟨rfl, rfl⟩ rfl rfl rfl (Nat.le_of_ble_eq_true rfl) ?_
    exact AR.iret (pc := 32) rfl dX8_says_32 (hrI (Option.some.inj h))
  · replace h := ite_t c2 h
    refine AR.iconst (pc := 11) (v := (-1)) dX8_says_11 (by decide) ?_
    exact AR.iret (pc := 12) rfl dX8_says_12 (hrI (Option.some.inj h))
noncomputable def f8_water (x1 : Int32) (σ : HS) : Option (Int32 × HS) :=
  bd (f0_hasTurn x1 σ) fun r1 =>
  if (r1.1 : Int32) = 0 then
    some ((-1), r1.2)
  else
    bd (f8_planAhead (r1.2)) fun r3 =>
    bd (f1_goFreely 20 r3) fun r4 =>
    bd (f1_waterIn x1 r4) fun r5 =>
    some (r5.1, r5.2)
set_option maxHeartbeats 4000000 in
set_option maxRecDepth 100000 in
theorem A8_water {l : Launch} (x1 : Int32) (σ : HS) (r : Int32 × HS) (h : f8_water x1 σ = some r) : MA l yX8_water (wsU yX8_water cX8_water 2 (some .int)) rm8_water SC [.ref 0, .int x1] σ (some (.int r.1), r.2) := by
  refine MA.of (L := [(0, .ref 0), (1, .int x1)]) pn_X8_water rfl (fun _ => Nat.le_of_ble_eq_true rfl) (fun _ => rfl) ?_
  unfold f8_water at h
  refine AR.aload_n (pc := 0) (j := 0) dX8_water_0 rfl rfl ?_
  refine AR.getf (pc := 1) (ci := 8) (j := 3) (d := 20 + 2) (v := .ref 20) (T := TX8) dX8_water_1 rfl rfl rfl (by decide) (fun w hw => wsU_in (uw_X8 w hw)) (wsU_in fl_X8_54) rfl ?_
  refine AR.iload_n (pc := 4) (j := 1) dX8_water_4 rfl rfl ?_
  obtain ⟨r1, h1, h⟩ := bd_some h
  refine AR.callVN (pc := 5) (As := [.int x1]) (st := []) (ci := 0) dX8_water_5 ⟨cd_X0_hasTurn, im_X0_hasTurn, se_X0_hasTurn, ini_X0⟩ mn_X8_210 (A0_hasTurn x1 σ _ h1) ⟨rfl, pd_X0_hasTurn⟩ ⟨Nat.le_of_ble_eq_true rfl, Nat.le_of_ble_eq_true rfl⟩ ⟨rfl, rfl⟩ rfl rfl rfl (Nat.le_of_ble_eq_true rfl) ?_
  refine AR.if_ne (pc := 8) (tgt := 13) dX8_water_8 (by decide) (fun c2 => ?_) (fun c2 => ?_)
  · replace h := ite_f c2 h
    refine AR.aload_n (pc := 13) (j := 0) dX8_water_13 rfl rfl ?_
    obtain ⟨r3, h3, h⟩ := bd_some h
    refine AR.callV (pc := 14) (As := []) (st := []) (ci := 8) dX8_water_14 ⟨cd_X8_planAhead, im_X8_planAhead, se_X8_planAhead, ini_X8⟩ ml_X8_216 (A8_planAhead (r1.2) _ h3) ⟨rfl, pd_X8_planAhead⟩ ⟨Nat.le_of_ble_eq_true rfl, Nat.le_of_ble_eq_true rfl⟩ ⟨rfl, rfl⟩ rfl rfl rfl (Nat.le_of_ble_eq_true rfl) ?_
    refine AR.aload_n (pc := 17) (j := 0) dX8_water_17 rfl rfl ?_
    refine AR.getf (pc := 18) (ci := 8) (j := 5) (d := 27 + 2) (v := .ref 27) (T := TX8) dX8_water_18 rfl rfl rfl (by decide) (fun w hw => wsU_in (uw_X8 w hw)) (wsU_in fl_X8_72) rfl ?_
    obtain ⟨r4, h4, h⟩ := bd_some h
    refine AR.callVN (pc := 21) (As := []) (st := []) (ci := 1) dX8_water_21 ⟨cd_X1_goFreely, im_X1_goFreely, se_X1_goFreely, ini_X1⟩ mn_X8_222 (A1_goFreely 20 grp20 r3 _ h4) ⟨rfl, pd_X1_goFreely⟩ ⟨Nat.le_of_ble_eq_true rfl, Nat.le_of_ble_eq_true rfl⟩ ⟨rfl, rfl⟩ rfl rfl rfl (Nat.le_of_ble_eq_true rfl) ?_
    refine AR.aload_n (pc := 24) (j := 0) dX8_water_24 rfl rfl ?_
    refine AR.getf (pc := 25) (ci := 8) (j := 5) (d := 27 + 2) (v := .ref 27) (T := TX8) dX8_water_25 rfl rfl rfl (by decide) (fun w hw => wsU_in (uw_X8 w hw)) (wsU_in fl_X8_72) rfl ?_
    refine AR.iload_n (pc := 28) (j := 1) dX8_water_28 rfl rfl ?_
    obtain ⟨r5, h5, h⟩ := bd_some h
    refine AR.callVN (pc := 29) (As := [.int x1]) (st := []) (ci := 1) dX8_water_29 ⟨cd_X1_waterIn, im_X1_waterIn, se_X1_waterIn, ini_X1⟩ mn_X8_228 (A1_waterIn x1 r4 _ h5) ⟨rfl, pd_X1_waterIn⟩ ⟨Nat.le_of_ble_eq_true rfl, Nat.le_of_ble_eq_true rfl⟩ ⟨rfl, rfl⟩ rfl rfl rfl (Nat.le_of_ble_eq_true rfl) ?_
    exact AR.iret (pc := 32) rfl dX8_water_32 (hrI (Option.some.inj h))
  · replace h := ite_t c2 h
    refine AR.iconst (pc := 11) (v := (-1)) dX8_water_11 (by decide) ?_
    exact AR.iret (pc := 12) rfl dX8_water_12 (hrI (Option.some.inj h))
noncomputable def f8_worth (x1 : Int32) (σ : HS) : Option (Int32 × HS) :=
  bd (f4_has x1 σ) fun r1 =>
  if (r1.1 : Int32) = 0 then
    some ((-1), r1.2)
  else
    bd (f8_planAhead (r1.2)) fun r3 =>
    bd (f1_goFreely 20 r3) fun r4 =>
    bd (f8_worthIn (r4.2 27 9) x1 r4) fun r5 =>
    some (r5.1, r5.2)
set_option maxHeartbeats 4000000 in
set_option maxRecDepth 100000 in
theorem A8_worth {l : Launch} (x1 : Int32) (σ : HS) (r : Int32 × HS) (h : f8_worth x1 σ = some r) : MA l yX8_worth (wsU yX8_worth cX8_worth 2 (some .int)) rm8_worth SC [.ref 0, .int x1] σ (some (.int r.1), r.2) := by
  refine MA.of (L := [(0, .ref 0), (1, .int x1)]) pn_X8_worth rfl (fun _ => Nat.le_of_ble_eq_true rfl) (fun _ => rfl) ?_
  unfold f8_worth at h
  refine AR.aload_n (pc := 0) (j := 0) dX8_worth_0 rfl rfl ?_
  refine AR.getf (pc := 1) (ci := 8) (j := 1) (d := 5 + 2) (v := .ref 5) (T := TX8) dX8_worth_1 rfl rfl rfl (by decide) (fun w hw => wsU_in (uw_X8 w hw)) (wsU_in fl_X8_32) rfl ?_
  refine AR.iload_n (pc := 4) (j := 1) dX8_worth_4 rfl rfl ?_
  obtain ⟨r1, h1, h⟩ := bd_some h
  refine AR.callVN (pc := 5) (As := [.int x1]) (st := []) (ci := 4) dX8_worth_5 ⟨cd_X4_has, im_X4_has, se_X4_has, ini_X4⟩ mn_X8_135 (A4_has x1 σ _ h1) ⟨rfl, pd_X4_has⟩ ⟨Nat.le_of_ble_eq_true rfl, Nat.le_of_ble_eq_true rfl⟩ ⟨rfl, rfl⟩ rfl rfl rfl (Nat.le_of_ble_eq_true rfl) ?_
  refine AR.if_ne (pc := 8) (tgt := 13) dX8_worth_8 (by decide) (fun c2 => ?_) (fun c2 => ?_)
  · replace h := ite_f c2 h
    refine AR.aload_n (pc := 13) (j := 0) dX8_worth_13 rfl rfl ?_
    obtain ⟨r3, h3, h⟩ := bd_some h
    refine AR.callV (pc := 14) (As := []) (st := []) (ci := 8) dX8_worth_14 ⟨cd_X8_planAhead, im_X8_planAhead, se_X8_planAhead, ini_X8⟩ ml_X8_216 (A8_planAhead (r1.2) _ h3) ⟨rfl, pd_X8_planAhead⟩ ⟨Nat.le_of_ble_eq_true rfl, Nat.le_of_ble_eq_true rfl⟩ ⟨rfl, rfl⟩ rfl rfl rfl (Nat.le_of_ble_eq_true rfl) ?_
    refine AR.aload_n (pc := 17) (j := 0) dX8_worth_17 rfl rfl ?_
    refine AR.getf (pc := 18) (ci := 8) (j := 5) (d := 27 + 2) (v := .ref 27) (T := TX8) dX8_worth_18 rfl rfl rfl (by decide) (fun w hw => wsU_in (uw_X8 w hw)) (wsU_in fl_X8_72) rfl ?_
    obtain ⟨r4, h4, h⟩ := bd_some h
    refine AR.callVN (pc := 21) (As := []) (st := []) (ci := 1) dX8_worth_21 ⟨cd_X1_goFreely, im_X1_goFreely, se_X1_goFreely, ini_X1⟩ mn_X8_222 (A1_goFreely 20 grp20 r3 _ h4) ⟨rfl, pd_X1_goFreely⟩ ⟨Nat.le_of_ble_eq_true rfl, Nat.le_of_ble_eq_true rfl⟩ ⟨rfl, rfl⟩ rfl rfl rfl (Nat.le_of_ble_eq_true rfl) ?_
    refine AR.aload_n (pc := 24) (j := 0) dX8_worth_24 rfl rfl ?_
    refine AR.getf (pc := 25) (ci := 8) (j := 5) (d := 27 + 2) (v := .ref 27) (T := TX8) dX8_worth_25 rfl rfl rfl (by decide) (fun w hw => wsU_in (uw_X8 w hw)) (wsU_in fl_X8_72) rfl ?_
    refine AR.getfN (pc := 28) (ci := 1) (j := 9) (d := 1) (v := .long (r4.2 27 9)) (T := TX1) dX8_worth_28 rfl rfl rfl (by decide) (fun w hw => wsU_in (uw_X1 w hw)) fn_X8_185 rfl ?_
    refine AR.iload_n (pc := 31) (j := 1) dX8_worth_31 rfl rfl ?_
    obtain ⟨r5, h5, h⟩ := bd_some h
    refine AR.callS (pc := 32) (As := [.long (r4.2 27 9), .int x1]) (st := []) dX8_worth_32 ⟨cd_X8_worthIn, sm_X8_worthIn, ini_X8⟩ ml_X8_101 (A8_worthIn (r4.2 27 9) x1 r4 _ h5) ⟨rfl, pd_X8_worthIn⟩ ⟨Nat.le_of_ble_eq_true rfl, Nat.le_of_ble_eq_true rfl⟩ ⟨rfl, rfl⟩ rfl (Nat.le_of_ble_eq_true rfl) ?_
    exact AR.iret (pc := 35) rfl dX8_worth_35 (hrI (Option.some.inj h))
  · replace h := ite_t c2 h
    refine AR.iconst (pc := 11) (v := (-1)) dX8_worth_11 (by decide) ?_
    exact AR.iret (pc := 12) rfl dX8_worth_12 (hrI (Option.some.inj h))
noncomputable def f8_together_18 (x1 : Int32) (σ : HS) : Option (Int32 × HS) :=
  if ((σ.1 5 0) : Int32) = 0 then
    some ((-3), σ)
  else
    bd (f0_follow σ) fun r2 =>
    bd (f5_makeForAll r2) fun r3 =>
    bd (f1_goFreely 30 r3) fun r4 =>
    if (x1 : Int32) = (-1) then
      bd (f8_worthToAll (r4.2 37 9) r4) fun r7 =>
      some (r7.1, r7.2)
    else
      bd (f1_saidIn 30 x1 r4) fun r6 =>
      some (r6.1, r6.2)
noncomputable def f8_together (x1 : Int32) (σ : HS) : Option (Int32 × HS) :=
  if (x1 : Int32) = (-1) then
    f8_together_18 x1 σ
  else
    bd (f0_hasTurn x1 σ) fun r2 =>
    if (r2.1 : Int32) = 0 then
      some ((-1), r2.2)
    else
      f8_together_18 x1 (r2.2)
set_option maxHeartbeats 4000000 in
set_option maxRecDepth 100000 in
theorem A8_together_18 {l : Launch} (x1 : Int32) (σ : HS) (r : Int32 × HS) (h : f8_together_18 x1 σ = some r) : AR l RX8 cX8_together 2 (some .int) (wsU yX8_together cX8_together 2 (some .int)) rm8_together SC 18 [(0, .ref 0), (1, .int x1)] [] σ (some (.int r.1), r.2) := by
  unfold f8_together_18 at h
  refine AR.aload_n (pc := 18) (j := 0) dX8_together_18 rfl rfl ?_
  refine AR.getf (pc := 19) (ci := 8) (j := 1) (d := 5 + 2) (v := .ref 5) (T := TX8) dX8_together_19 rfl rfl rfl (by decide) (fun w hw => wsU_in (uw_X8 w hw)) (wsU_in fl_X8_32) rfl ?_
  refine AR.getfN (pc := 22) (ci := 4) (j := 0) (d := 0) (v := .int (σ.1 5 0)) (T := TX4) dX8_together_22 rfl rfl rfl (by decide) (fun w hw => wsU_in (uw_X4 w hw)) fn_X8_132 rfl ?_
  refine AR.if_ne (pc := 25) (tgt := 31) dX8_together_25 (by decide) (fun c1 => ?_) (fun c1 => ?_)
  · replace h := ite_f c1 h
    refine AR.aload_n (pc := 31) (j := 0) dX8_together_31 rfl rfl ?_
    refine AR.getf (pc := 32) (ci := 8) (j := 6) (d := 30 + 2) (v := .ref 30) (T := TX8) dX8_together_32 rfl rfl rfl (by decide) (fun w hw => wsU_in (uw_X8 w hw)) (wsU_in fl_X8_76) rfl ?_
    refine AR.aload_n (pc := 35) (j := 0) dX8_together_35 rfl rfl ?_
    refine AR.getf (pc := 36) (ci := 8) (j := 3) (d := 20 + 2) (v := .ref 20) (T := TX8) dX8_together_36 rfl rfl rfl (by decide) (fun w hw => wsU_in (uw_X8 w hw)) (wsU_in fl_X8_54) rfl ?_
    obtain ⟨r2, h2, h⟩ := bd_some h
    refine AR.callVN (pc := 39) (As := [.ref 20]) (st := []) (ci := 0) dX8_together_39 ⟨cd_X0_follow, im_X0_follow, se_X0_follow, ini_X0⟩ mn_X8_231 (A0_follow σ _ h2) ⟨rfl, pd_X0_follow⟩ ⟨Nat.le_of_ble_eq_true rfl, Nat.le_of_ble_eq_true rfl⟩ ⟨rfl, rfl⟩ rfl rfl rfl (Nat.le_of_ble_eq_true rfl) ?_
    refine AR.aload_n (pc := 42) (j := 0) dX8_together_42 rfl rfl ?_
    refine AR.getf (pc := 43) (ci := 8) (j := 7) (d := 32 + 2) (v := .ref 32) (T := TX8) dX8_together_43 rfl rfl rfl (by decide) (fun w hw => wsU_in (uw_X8 w hw)) (wsU_in fl_X8_79) rfl ?_
    obtain ⟨r3, h3, h⟩ := bd_some h
    refine AR.callVN (pc := 46) (As := []) (st := []) (ci := 5) dX8_together_46 ⟨cd_X5_makeForAll, im_X5_makeForAll, se_X5_makeForAll, ini_X5⟩ mn_X8_234 (A5_makeForAll r2 _ h3) ⟨rfl, pd_X5_makeForAll⟩ ⟨Nat.le_of_ble_eq_true rfl, Nat.le_of_ble_eq_true rfl⟩ ⟨rfl, rfl⟩ rfl rfl rfl (Nat.le_of_ble_eq_true rfl) ?_
    refine AR.aload_n (pc := 49) (j := 0) dX8_together_49 rfl rfl ?_
    refine AR.getf (pc := 50) (ci := 8) (j := 8) (d := 37 + 2) (v := .ref 37) (T := TX8) dX8_together_50 rfl rfl rfl (by decide) (fun w hw => wsU_in (uw_X8 w hw)) (wsU_in fl_X8_82) rfl ?_
    obtain ⟨r4, h4, h⟩ := bd_some h
    refine AR.callVN (pc := 53) (As := []) (st := []) (ci := 1) dX8_together_53 ⟨cd_X1_goFreely, im_X1_goFreely, se_X1_goFreely, ini_X1⟩ mn_X8_222 (A1_goFreely 30 grp30 r3 _ h4) ⟨rfl, pd_X1_goFreely⟩ ⟨Nat.le_of_ble_eq_true rfl, Nat.le_of_ble_eq_true rfl⟩ ⟨rfl, rfl⟩ rfl rfl rfl (Nat.le_of_ble_eq_true rfl) ?_
    refine AR.iload_n (pc := 56) (j := 1) dX8_together_56 rfl rfl ?_
    refine AR.iconst (pc := 57) (v := (-1)) dX8_together_57 (by decide) ?_
    refine AR.icmp_ne (pc := 58) (tgt := 74) dX8_together_58 (by decide) (fun c5 => ?_) (fun c5 => ?_)
    · replace h := ite_f c5 h
      refine AR.aload_n (pc := 74) (j := 0) dX8_together_74 rfl rfl ?_
      refine AR.getf (pc := 75) (ci := 8) (j := 8) (d := 37 + 2) (v := .ref 37) (T := TX8) dX8_together_75 rfl rfl rfl (by decide) (fun w hw => wsU_in (uw_X8 w hw)) (wsU_in fl_X8_82) rfl ?_
      refine AR.iload_n (pc := 78) (j := 1) dX8_together_78 rfl rfl ?_
      obtain ⟨r6, h6, h⟩ := bd_some h
      refine AR.callVN (pc := 79) (As := [.int x1]) (st := []) (ci := 1) dX8_together_79 ⟨cd_X1_saidIn, im_X1_saidIn, se_X1_saidIn, ini_X1⟩ mn_X8_225 (A1_saidIn 30 grp30 x1 r4 _ h6) ⟨rfl, pd_X1_saidIn⟩ ⟨Nat.le_of_ble_eq_true rfl, Nat.le_of_ble_eq_true rfl⟩ ⟨rfl, rfl⟩ rfl rfl rfl (Nat.le_of_ble_eq_true rfl) ?_
      exact AR.iret (pc := 82) rfl dX8_together_82 (hrI (Option.some.inj h))
    · replace h := ite_t c5 h
      refine AR.aload_n (pc := 61) (j := 0) dX8_together_61 rfl rfl ?_
      refine AR.getf (pc := 62) (ci := 8) (j := 8) (d := 37 + 2) (v := .ref 37) (T := TX8) dX8_together_62 rfl rfl rfl (by decide) (fun w hw => wsU_in (uw_X8 w hw)) (wsU_in fl_X8_82) rfl ?_
      refine AR.getfN (pc := 65) (ci := 1) (j := 9) (d := 1) (v := .long (r4.2 37 9)) (T := TX1) dX8_together_65 rfl rfl rfl (by decide) (fun w hw => wsU_in (uw_X1 w hw)) fn_X8_185 rfl ?_
      obtain ⟨r7, h7, h⟩ := bd_some h
      refine AR.callS (pc := 68) (As := [.long (r4.2 37 9)]) (st := []) dX8_together_68 ⟨cd_X8_worthToAll, sm_X8_worthToAll, ini_X8⟩ ml_X8_237 (A8_worthToAll (r4.2 37 9) r4 _ h7) ⟨rfl, pd_X8_worthToAll⟩ ⟨Nat.le_of_ble_eq_true rfl, Nat.le_of_ble_eq_true rfl⟩ ⟨rfl, rfl⟩ rfl (Nat.le_of_ble_eq_true rfl) ?_
      refine AR.goto (pc := 71) (tgt := 82) dX8_together_71 (by decide) ?_
      exact AR.iret (pc := 82) rfl dX8_together_82 (hrI (Option.some.inj h))
  · replace h := ite_t c1 h
    refine AR.bipush (pc := 28) (v := (-3)) dX8_together_28 (by decide) ?_
    exact AR.iret (pc := 30) rfl dX8_together_30 (hrI (Option.some.inj h))
set_option maxHeartbeats 4000000 in
set_option maxRecDepth 100000 in
theorem A8_together {l : Launch} (x1 : Int32) (σ : HS) (r : Int32 × HS) (h : f8_together x1 σ = some r) : MA l yX8_together (wsU yX8_together cX8_together 2 (some .int)) rm8_together SC [.ref 0, .int x1] σ (some (.int r.1), r.2) := by
  refine MA.of (L := [(0, .ref 0), (1, .int x1)]) pn_X8_together rfl (fun _ => Nat.le_of_ble_eq_true rfl) (fun _ => rfl) ?_
  unfold f8_together at h
  refine AR.iload_n (pc := 0) (j := 1) dX8_together_0 rfl rfl ?_
  refine AR.iconst (pc := 1) (v := (-1)) dX8_together_1 (by decide) ?_
  refine AR.icmp_eq (pc := 2) (tgt := 18) dX8_together_2 (by decide) (fun c1 => ?_) (fun c1 => ?_)
  · replace h := ite_t c1 h
    exact AR.pick [0, 1] rfl (A8_together_18 x1 σ r h)
  · replace h := ite_f c1 h
    refine AR.aload_n (pc := 5) (j := 0) dX8_together_5 rfl rfl ?_
    refine AR.getf (pc := 6) (ci := 8) (j := 3) (d := 20 + 2) (v := .ref 20) (T := TX8) dX8_together_6 rfl rfl rfl (by decide) (fun w hw => wsU_in (uw_X8 w hw)) (wsU_in fl_X8_54) rfl ?_
    refine AR.iload_n (pc := 9) (j := 1) dX8_together_9 rfl rfl ?_
    obtain ⟨r2, h2, h⟩ := bd_some h
    refine AR.callVN (pc := 10) (As := [.int x1]) (st := []) (ci := 0) dX8_together_10 ⟨cd_X0_hasTurn, im_X0_hasTurn, se_X0_hasTurn, ini_X0⟩ mn_X8_210 (A0_hasTurn x1 σ _ h2) ⟨rfl, pd_X0_hasTurn⟩ ⟨Nat.le_of_ble_eq_true rfl, Nat.le_of_ble_eq_true rfl⟩ ⟨rfl, rfl⟩ rfl rfl rfl (Nat.le_of_ble_eq_true rfl) ?_
    refine AR.if_ne (pc := 13) (tgt := 18) dX8_together_13 (by decide) (fun c3 => ?_) (fun c3 => ?_)
    · replace h := ite_f c3 h
      exact AR.pick [0, 1] rfl (A8_together_18 x1 (r2.2) r h)
    · replace h := ite_t c3 h
      refine AR.iconst (pc := 16) (v := (-1)) dX8_together_16 (by decide) ?_
      exact AR.iret (pc := 17) rfl dX8_together_17 (hrI (Option.some.inj h))
noncomputable def f8_areTwo_31 (σ : HS) : Option (Int32 × HS) :=
  some (0, σ)
noncomputable def f8_areTwo (x1 : Int32) (x2 : Int32) (σ : HS) : Option (Int32 × HS) :=
  bd (f4_has x1 σ) fun r1 =>
  if (r1.1 : Int32) = 0 then
    f8_areTwo_31 (r1.2)
  else
    bd (f4_has x2 (r1.2)) fun r3 =>
    if (r3.1 : Int32) = 0 then
      f8_areTwo_31 (r3.2)
    else
      if (x1 : Int32) = x2 then
        f8_areTwo_31 (r3.2)
      else
        some (1, r3.2)
set_option maxHeartbeats 4000000 in
set_option maxRecDepth 100000 in
theorem A8_areTwo_31 {l : Launch} (σ : HS) (r : Int32 × HS) (h : f8_areTwo_31 σ = some r) : AR l RX8 cX8_areTwo 3 (some .boolean) (wsU yX8_areTwo cX8_areTwo 3 (some .boolean)) rm8_areTwo SC 31 [] [] σ (some (.int r.1), r.2) := by
  unfold f8_areTwo_31 at h
  refine AR.iconst (pc := 31) (v := 0) dX8_areTwo_31 (by decide) ?_
  exact AR.zret (pc := 32) rfl (Or.inl rfl) dX8_areTwo_32 (hrI (Option.some.inj h))
set_option maxHeartbeats 4000000 in
set_option maxRecDepth 100000 in
theorem A8_areTwo {l : Launch} (x1 : Int32) (x2 : Int32) (σ : HS) (r : Int32 × HS) (h : f8_areTwo x1 x2 σ = some r) : MA l yX8_areTwo (wsU yX8_areTwo cX8_areTwo 3 (some .boolean)) rm8_areTwo SC [.ref 0, .int x1, .int x2] σ (some (.int r.1), r.2) := by
  refine MA.of (L := [(0, .ref 0), (1, .int x1), (2, .int x2)]) pn_X8_areTwo rfl (fun _ => Nat.le_of_ble_eq_true rfl) (fun _ => rfl) ?_
  unfold f8_areTwo at h
  refine AR.aload_n (pc := 0) (j := 0) dX8_areTwo_0 rfl rfl ?_
  refine AR.getf (pc := 1) (ci := 8) (j := 1) (d := 5 + 2) (v := .ref 5) (T := TX8) dX8_areTwo_1 rfl rfl rfl (by decide) (fun w hw => wsU_in (uw_X8 w hw)) (wsU_in fl_X8_32) rfl ?_
  refine AR.iload_n (pc := 4) (j := 1) dX8_areTwo_4 rfl rfl ?_
  obtain ⟨r1, h1, h⟩ := bd_some h
  refine AR.callVN (pc := 5) (As := [.int x1]) (st := []) (ci := 4) dX8_areTwo_5 ⟨cd_X4_has, im_X4_has, se_X4_has, ini_X4⟩ mn_X8_135 (A4_has x1 σ _ h1) ⟨rfl, pd_X4_has⟩ ⟨Nat.le_of_ble_eq_true rfl, Nat.le_of_ble_eq_true rfl⟩ ⟨rfl, rfl⟩ rfl rfl rfl (Nat.le_of_ble_eq_true rfl) ?_
  refine AR.if_eq (pc := 8) (tgt := 31) dX8_areTwo_8 (by decide) (fun c2 => ?_) (fun c2 => ?_)
  · replace h := ite_t c2 h
    exact AR.pick [] rfl (A8_areTwo_31 (r1.2) r h)
  · replace h := ite_f c2 h
    refine AR.aload_n (pc := 11) (j := 0) dX8_areTwo_11 rfl rfl ?_
    refine AR.getf (pc := 12) (ci := 8) (j := 1) (d := 5 + 2) (v := .ref 5) (T := TX8) dX8_areTwo_12 rfl rfl rfl (by decide) (fun w hw => wsU_in (uw_X8 w hw)) (wsU_in fl_X8_32) rfl ?_
    refine AR.iload_n (pc := 15) (j := 2) dX8_areTwo_15 rfl rfl ?_
    obtain ⟨r3, h3, h⟩ := bd_some h
    refine AR.callVN (pc := 16) (As := [.int x2]) (st := []) (ci := 4) dX8_areTwo_16 ⟨cd_X4_has, im_X4_has, se_X4_has, ini_X4⟩ mn_X8_135 (A4_has x2 (r1.2) _ h3) ⟨rfl, pd_X4_has⟩ ⟨Nat.le_of_ble_eq_true rfl, Nat.le_of_ble_eq_true rfl⟩ ⟨rfl, rfl⟩ rfl rfl rfl (Nat.le_of_ble_eq_true rfl) ?_
    refine AR.if_eq (pc := 19) (tgt := 31) dX8_areTwo_19 (by decide) (fun c4 => ?_) (fun c4 => ?_)
    · replace h := ite_t c4 h
      exact AR.pick [] rfl (A8_areTwo_31 (r3.2) r h)
    · replace h := ite_f c4 h
      refine AR.iload_n (pc := 22) (j := 1) dX8_areTwo_22 rfl rfl ?_
      refine AR.iload_n (pc := 23) (j := 2) dX8_areTwo_23 rfl rfl ?_
      refine AR.icmp_eq (pc := 24) (tgt := 31) dX8_areTwo_24 (by decide) (fun c5 => ?_) (fun c5 => ?_)
      · replace h := ite_t c5 h
        exact AR.pick [] rfl (A8_areTwo_31 (r3.2) r h)
      · replace h := ite_f c5 h
        refine AR.iconst (pc := 27) (v := 1) dX8_areTwo_27 (by decide) ?_
        refine AR.goto (pc := 28) (tgt := 32) dX8_areTwo_28 (by decide) ?_
        exact AR.zret (pc := 32) rfl (Or.inr rfl) dX8_areTwo_32 (hrI (Option.some.inj h))
noncomputable def f8_owed (x1 : Int32) (x2 : Int32) (σ : HS) : Option (Int64 × HS) :=
  bd (f8_areTwo x1 x2 σ) fun r1 =>
  if (r1.1 : Int32) = 0 then
    some ((-9223372036854775808), r1.2)
  else
    bd (f0_placeOf x1 (r1.2)) fun r3 =>
    bd (f8_planAhead (r3.2)) fun r4 =>
    bd (f1_goForced 20 (r3.1) (-9) r4) fun r5 =>
    bd (f8_worthIn (r5.2 27 9) x2 r5) fun r6 =>
    bd (f1_waterIn (r3.1) (r6.2)) fun r7 =>
    bd (f4_longestWithin x1 (r7.1) (r7.2)) fun r8 =>
    bd (f1_goForced 20 (r3.1) (r8.1) (r8.2)) fun r9 =>
    bd (f8_worthIn (r9.2 27 9) x2 r9) fun r10 =>
    some ((((r6.1) - (r10.1)) : Int32).toInt64, r10.2)
set_option maxHeartbeats 4000000 in
set_option maxRecDepth 100000 in
theorem A8_owed {l : Launch} (x1 : Int32) (x2 : Int32) (σ : HS) (r : Int64 × HS) (h : f8_owed x1 x2 σ = some r) : MA l yX8_owed (wsU yX8_owed cX8_owed 5 (some .long)) rm8_owed SC [.ref 0, .int x1, .int x2] σ (some (.long r.1), r.2) := by
  refine MA.of (L := [(0, .ref 0), (1, .int x1), (2, .int x2)]) pn_X8_owed rfl (fun _ => Nat.le_of_ble_eq_true rfl) (fun _ => rfl) ?_
  unfold f8_owed at h
  refine AR.aload_n (pc := 0) (j := 0) dX8_owed_0 rfl rfl ?_
  refine AR.iload_n (pc := 1) (j := 1) dX8_owed_1 rfl rfl ?_
  refine AR.iload_n (pc := 2) (j := 2) dX8_owed_2 rfl rfl ?_
  obtain ⟨r1, h1, h⟩ := bd_some h
  refine AR.callV (pc := 3) (As := [.int x1, .int x2]) (st := []) (ci := 8) dX8_owed_3 ⟨cd_X8_areTwo, im_X8_areTwo, se_X8_areTwo, ini_X8⟩ ml_X8_244 (A8_areTwo x1 x2 σ _ h1) ⟨rfl, pd_X8_areTwo⟩ ⟨Nat.le_of_ble_eq_true rfl, Nat.le_of_ble_eq_true rfl⟩ ⟨rfl, rfl⟩ rfl rfl rfl (Nat.le_of_ble_eq_true rfl) ?_
  refine AR.if_ne (pc := 6) (tgt := 13) dX8_owed_6 (by decide) (fun c2 => ?_) (fun c2 => ?_)
  · replace h := ite_f c2 h
    refine AR.aload_n (pc := 13) (j := 0) dX8_owed_13 rfl rfl ?_
    refine AR.getf (pc := 14) (ci := 8) (j := 3) (d := 20 + 2) (v := .ref 20) (T := TX8) dX8_owed_14 rfl rfl rfl (by decide) (fun w hw => wsU_in (uw_X8 w hw)) (wsU_in fl_X8_54) rfl ?_
    refine AR.iload_n (pc := 17) (j := 1) dX8_owed_17 rfl rfl ?_
    obtain ⟨r3, h3, h⟩ := bd_some h
    refine AR.callVN (pc := 18) (As := [.int x1]) (st := []) (ci := 0) dX8_owed_18 ⟨cd_X0_placeOf, im_X0_placeOf, se_X0_placeOf, ini_X0⟩ mn_X8_145 (A0_placeOf x1 (r1.2) _ h3) ⟨rfl, pd_X0_placeOf⟩ ⟨Nat.le_of_ble_eq_true rfl, Nat.le_of_ble_eq_true rfl⟩ ⟨rfl, rfl⟩ rfl rfl rfl (Nat.le_of_ble_eq_true rfl) ?_
    refine AR.istore_n (pc := 21) (L2 := [(3, .int (r3.1)), (0, .ref 0), (1, .int x1), (2, .int x2)]) dX8_owed_21 rfl (by decide) rfl ?_
    refine AR.aload_n (pc := 22) (j := 1) dX8_owed_22 rfl rfl ?_
    obtain ⟨r4, h4, h⟩ := bd_some h
    refine AR.callV (pc := 23) (As := []) (st := []) (ci := 8) dX8_owed_23 ⟨cd_X8_planAhead, im_X8_planAhead, se_X8_planAhead, ini_X8⟩ ml_X8_216 (A8_planAhead (r3.2) _ h4) ⟨rfl, pd_X8_planAhead⟩ ⟨Nat.le_of_ble_eq_true rfl, Nat.le_of_ble_eq_true rfl⟩ ⟨rfl, rfl⟩ rfl rfl rfl (Nat.le_of_ble_eq_true rfl) ?_
    refine AR.aload_n (pc := 26) (j := 1) dX8_owed_26 rfl rfl ?_
    refine AR.getf (pc := 27) (ci := 8) (j := 5) (d := 27 + 2) (v := .ref 27) (T := TX8) dX8_owed_27 rfl rfl rfl (by decide) (fun w hw => wsU_in (uw_X8 w hw)) (wsU_in fl_X8_72) rfl ?_
    refine AR.iload_n (pc := 30) (j := 0) dX8_owed_30 rfl rfl ?_
    refine AR.bipush (pc := 31) (v := (-9)) dX8_owed_31 (by decide) ?_
    obtain ⟨r5, h5, h⟩ := bd_some h
    refine AR.callVN (pc := 33) (As := [.int (r3.1), .int (-9)]) (st := []) (ci := 1) dX8_owed_33 ⟨cd_X1_goForced, im_X1_goForced, se_X1_goForced, ini_X1⟩ mn_X8_249 (A1_goForced 20 grp20 (r3.1) (-9) r4 _ h5) ⟨rfl, pd_X1_goForced⟩ ⟨Nat.le_of_ble_eq_true rfl, Nat.le_of_ble_eq_true rfl⟩ ⟨rfl, rfl⟩ rfl rfl rfl (Nat.le_of_ble_eq_true rfl) ?_
    refine AR.aload_n (pc := 36) (j := 1) dX8_owed_36 rfl rfl ?_
    refine AR.getf (pc := 37) (ci := 8) (j := 5) (d := 27 + 2) (v := .ref 27) (T := TX8) dX8_owed_37 rfl rfl rfl (by decide) (fun w hw => wsU_in (uw_X8 w hw)) (wsU_in fl_X8_72) rfl ?_
    refine AR.getfN (pc := 40) (ci := 1) (j := 9) (d := 1) (v := .long (r5.2 27 9)) (T := TX1) dX8_owed_40 rfl rfl rfl (by decide) (fun w hw => wsU_in (uw_X1 w hw)) fn_X8_185 rfl ?_
    refine AR.iload_n (pc := 43) (j := 3) dX8_owed_43 rfl rfl ?_
    obtain ⟨r6, h6, h⟩ := bd_some h
    refine AR.callS (pc := 44) (As := [.long (r5.2 27 9), .int x2]) (st := []) dX8_owed_44 ⟨cd_X8_worthIn, sm_X8_worthIn, ini_X8⟩ ml_X8_101 (A8_worthIn (r5.2 27 9) x2 r5 _ h6) ⟨rfl, pd_X8_worthIn⟩ ⟨Nat.le_of_ble_eq_true rfl, Nat.le_of_ble_eq_true rfl⟩ ⟨rfl, rfl⟩ rfl (Nat.le_of_ble_eq_true rfl) ?_
    refine AR.istore (pc := 47) (L2 := [(4, .int (r6.1)), (3, .int (r3.1)), (0, .ref 0), (1, .int x1), (2, .int x2)]) dX8_owed_47 (by decide) rfl ?_
    refine AR.aload_n (pc := 49) (j := 2) dX8_owed_49 rfl rfl ?_
    refine AR.getf (pc := 50) (ci := 8) (j := 5) (d := 27 + 2) (v := .ref 27) (T := TX8) dX8_owed_50 rfl rfl rfl (by decide) (fun w hw => wsU_in (uw_X8 w hw)) (wsU_in fl_X8_72) rfl ?_
    refine AR.iload_n (pc := 53) (j := 1) dX8_owed_53 rfl rfl ?_
    refine AR.aload_n (pc := 54) (j := 2) dX8_owed_54 rfl rfl ?_
    refine AR.getf (pc := 55) (ci := 8) (j := 1) (d := 5 + 2) (v := .ref 5) (T := TX8) dX8_owed_55 rfl rfl rfl (by decide) (fun w hw => wsU_in (uw_X8 w hw)) (wsU_in fl_X8_32) rfl ?_
    refine AR.iload_n (pc := 58) (j := 3) dX8_owed_58 rfl rfl ?_
    refine AR.aload_n (pc := 59) (j := 2) dX8_owed_59 rfl rfl ?_
    refine AR.getf (pc := 60) (ci := 8) (j := 5) (d := 27 + 2) (v := .ref 27) (T := TX8) dX8_owed_60 rfl rfl rfl (by decide) (fun w hw => wsU_in (uw_X8 w hw)) (wsU_in fl_X8_72) rfl ?_
    refine AR.iload_n (pc := 63) (j := 1) dX8_owed_63 rfl rfl ?_
    obtain ⟨r7, h7, h⟩ := bd_some h
    refine AR.callVN (pc := 64) (As := [.int (r3.1)]) (st := [.int x1, .ref 5, .int (r3.1), .ref 27]) (ci := 1) dX8_owed_64 ⟨cd_X1_waterIn, im_X1_waterIn, se_X1_waterIn, ini_X1⟩ mn_X8_228 (A1_waterIn (r3.1) (r6.2) _ h7) ⟨rfl, pd_X1_waterIn⟩ ⟨Nat.le_of_ble_eq_true rfl, Nat.le_of_ble_eq_true rfl⟩ ⟨rfl, rfl⟩ rfl rfl rfl (Nat.le_of_ble_eq_true rfl) ?_
    obtain ⟨r8, h8, h⟩ := bd_some h
    refine AR.callVN (pc := 67) (As := [.int x1, .int (r7.1)]) (st := [.int (r3.1), .ref 27]) (ci := 4) dX8_owed_67 ⟨cd_X4_longestWithin, im_X4_longestWithin, se_X4_longestWithin, ini_X4⟩ mn_X8_252 (A4_longestWithin x1 (r7.1) (r7.2) _ h8) ⟨rfl, pd_X4_longestWithin⟩ ⟨Nat.le_of_ble_eq_true rfl, Nat.le_of_ble_eq_true rfl⟩ ⟨rfl, rfl⟩ rfl rfl rfl (Nat.le_of_ble_eq_true rfl) ?_
    obtain ⟨r9, h9, h⟩ := bd_some h
    refine AR.callVN (pc := 70) (As := [.int (r3.1), .int (r8.1)]) (st := []) (ci := 1) dX8_owed_70 ⟨cd_X1_goForced, im_X1_goForced, se_X1_goForced, ini_X1⟩ mn_X8_249 (A1_goForced 20 grp20 (r3.1) (r8.1) (r8.2) _ h9) ⟨rfl, pd_X1_goForced⟩ ⟨Nat.le_of_ble_eq_true rfl, Nat.le_of_ble_eq_true rfl⟩ ⟨rfl, rfl⟩ rfl rfl rfl (Nat.le_of_ble_eq_true rfl) ?_
    refine AR.iload (pc := 73) (j := 0) dX8_owed_73 rfl ?_
    refine AR.aload_n (pc := 75) (j := 2) dX8_owed_75 rfl rfl ?_
    refine AR.getf (pc := 76) (ci := 8) (j := 5) (d := 27 + 2) (v := .ref 27) (T := TX8) dX8_owed_76 rfl rfl rfl (by decide) (fun w hw => wsU_in (uw_X8 w hw)) (wsU_in fl_X8_72) rfl ?_
    refine AR.getfN (pc := 79) (ci := 1) (j := 9) (d := 1) (v := .long (r9.2 27 9)) (T := TX1) dX8_owed_79 rfl rfl rfl (by decide) (fun w hw => wsU_in (uw_X1 w hw)) fn_X8_185 rfl ?_
    refine AR.iload_n (pc := 82) (j := 4) dX8_owed_82 rfl rfl ?_
    obtain ⟨r10, h10, h⟩ := bd_some h
    refine AR.callS (pc := 83) (As := [.long (r9.2 27 9), .int x2]) (st := [.int (r6.1)]) dX8_owed_83 ⟨cd_X8_worthIn, sm_X8_worthIn, ini_X8⟩ ml_X8_101 (A8_worthIn (r9.2 27 9) x2 r9 _ h10) ⟨rfl, pd_X8_worthIn⟩ ⟨Nat.le_of_ble_eq_true rfl, Nat.le_of_ble_eq_true rfl⟩ ⟨rfl, rfl⟩ rfl (Nat.le_of_ble_eq_true rfl) ?_
    refine AR.isub (pc := 86) dX8_owed_86 ?_
    refine AR.i2l (pc := 87) dX8_owed_87 ?_
    exact AR.lret (pc := 88) rfl dX8_owed_88 (hrL (Option.some.inj h))
  · replace h := ite_t c2 h
    refine AR.ldc2 (pc := 9) (v := (-9223372036854775808)) dX8_owed_9 (wsU_in kl_X8_247) ?_
    exact AR.lret (pc := 12) rfl dX8_owed_12 (hrL (Option.some.inj h))
noncomputable def f8_bargain (x1 : Int32) (x2 : Int32) (σ : HS) : Option (Int64 × HS) :=
  bd (f8_areTwo x1 x2 σ) fun r1 =>
  if (r1.1 : Int32) = 0 then
    some ((-9223372036854775808), r1.2)
  else
    bd (f8_planAhead (r1.2)) fun r3 =>
    bd (f0_placeOf x1 r3) fun r4 =>
    bd (f1_goForced 20 (r4.1) (-9) (r4.2)) fun r5 =>
    bd (f8_worthIn (r5.2 27 9) x1 r5) fun r6 =>
    bd (f8_worthIn ((r6.2).2 27 9) x2 (r6.2)) fun r7 =>
    bd (f1_goFreely 20 (r7.2)) fun r8 =>
    bd (f8_worthIn (r8.2 27 9) x1 r8) fun r9 =>
    bd (f8_worthIn ((r9.2).2 27 9) x2 (r9.2)) fun r10 =>
    some ((((((r6.1) + (r7.1)) - (r9.1)) - (r10.1)) : Int32).toInt64, r10.2)
set_option maxHeartbeats 4000000 in
set_option maxRecDepth 100000 in
theorem A8_bargain {l : Launch} (x1 : Int32) (x2 : Int32) (σ : HS) (r : Int64 × HS) (h : f8_bargain x1 x2 σ = some r) : MA l yX8_bargain (wsU yX8_bargain cX8_bargain 4 (some .long)) rm8_bargain SC [.ref 0, .int x1, .int x2] σ (some (.long r.1), r.2) := by
  refine MA.of (L := [(0, .ref 0), (1, .int x1), (2, .int x2)]) pn_X8_bargain rfl (fun _ => Nat.le_of_ble_eq_true rfl) (fun _ => rfl) ?_
  unfold f8_bargain at h
  refine AR.aload_n (pc := 0) (j := 0) dX8_bargain_0 rfl rfl ?_
  refine AR.iload_n (pc := 1) (j := 1) dX8_bargain_1 rfl rfl ?_
  refine AR.iload_n (pc := 2) (j := 2) dX8_bargain_2 rfl rfl ?_
  obtain ⟨r1, h1, h⟩ := bd_some h
  refine AR.callV (pc := 3) (As := [.int x1, .int x2]) (st := []) (ci := 8) dX8_bargain_3 ⟨cd_X8_areTwo, im_X8_areTwo, se_X8_areTwo, ini_X8⟩ ml_X8_244 (A8_areTwo x1 x2 σ _ h1) ⟨rfl, pd_X8_areTwo⟩ ⟨Nat.le_of_ble_eq_true rfl, Nat.le_of_ble_eq_true rfl⟩ ⟨rfl, rfl⟩ rfl rfl rfl (Nat.le_of_ble_eq_true rfl) ?_
  refine AR.if_ne (pc := 6) (tgt := 13) dX8_bargain_6 (by decide) (fun c2 => ?_) (fun c2 => ?_)
  · replace h := ite_f c2 h
    refine AR.aload_n (pc := 13) (j := 0) dX8_bargain_13 rfl rfl ?_
    obtain ⟨r3, h3, h⟩ := bd_some h
    refine AR.callV (pc := 14) (As := []) (st := []) (ci := 8) dX8_bargain_14 ⟨cd_X8_planAhead, im_X8_planAhead, se_X8_planAhead, ini_X8⟩ ml_X8_216 (A8_planAhead (r1.2) _ h3) ⟨rfl, pd_X8_planAhead⟩ ⟨Nat.le_of_ble_eq_true rfl, Nat.le_of_ble_eq_true rfl⟩ ⟨rfl, rfl⟩ rfl rfl rfl (Nat.le_of_ble_eq_true rfl) ?_
    refine AR.aload_n (pc := 17) (j := 0) dX8_bargain_17 rfl rfl ?_
    refine AR.getf (pc := 18) (ci := 8) (j := 5) (d := 27 + 2) (v := .ref 27) (T := TX8) dX8_bargain_18 rfl rfl rfl (by decide) (fun w hw => wsU_in (uw_X8 w hw)) (wsU_in fl_X8_72) rfl ?_
    refine AR.aload_n (pc := 21) (j := 0) dX8_bargain_21 rfl rfl ?_
    refine AR.getf (pc := 22) (ci := 8) (j := 3) (d := 20 + 2) (v := .ref 20) (T := TX8) dX8_bargain_22 rfl rfl rfl (by decide) (fun w hw => wsU_in (uw_X8 w hw)) (wsU_in fl_X8_54) rfl ?_
    refine AR.iload_n (pc := 25) (j := 1) dX8_bargain_25 rfl rfl ?_
    obtain ⟨r4, h4, h⟩ := bd_some h
    refine AR.callVN (pc := 26) (As := [.int x1]) (st := [.ref 27]) (ci := 0) dX8_bargain_26 ⟨cd_X0_placeOf, im_X0_placeOf, se_X0_placeOf, ini_X0⟩ mn_X8_145 (A0_placeOf x1 r3 _ h4) ⟨rfl, pd_X0_placeOf⟩ ⟨Nat.le_of_ble_eq_true rfl, Nat.le_of_ble_eq_true rfl⟩ ⟨rfl, rfl⟩ rfl rfl rfl (Nat.le_of_ble_eq_true rfl) ?_
    refine AR.bipush (pc := 29) (v := (-9)) dX8_bargain_29 (by decide) ?_
    obtain ⟨r5, h5, h⟩ := bd_some h
    refine AR.callVN (pc := 31) (As := [.int (r4.1), .int (-9)]) (st := []) (ci := 1) dX8_bargain_31 ⟨cd_X1_goForced, im_X1_goForced, se_X1_goForced, ini_X1⟩ mn_X8_249 (A1_goForced 20 grp20 (r4.1) (-9) (r4.2) _ h5) ⟨rfl, pd_X1_goForced⟩ ⟨Nat.le_of_ble_eq_true rfl, Nat.le_of_ble_eq_true rfl⟩ ⟨rfl, rfl⟩ rfl rfl rfl (Nat.le_of_ble_eq_true rfl) ?_
    refine AR.aload_n (pc := 34) (j := 0) dX8_bargain_34 rfl rfl ?_
    refine AR.getf (pc := 35) (ci := 8) (j := 5) (d := 27 + 2) (v := .ref 27) (T := TX8) dX8_bargain_35 rfl rfl rfl (by decide) (fun w hw => wsU_in (uw_X8 w hw)) (wsU_in fl_X8_72) rfl ?_
    refine AR.getfN (pc := 38) (ci := 1) (j := 9) (d := 1) (v := .long (r5.2 27 9)) (T := TX1) dX8_bargain_38 rfl rfl rfl (by decide) (fun w hw => wsU_in (uw_X1 w hw)) fn_X8_185 rfl ?_
    refine AR.iload_n (pc := 41) (j := 1) dX8_bargain_41 rfl rfl ?_
    obtain ⟨r6, h6, h⟩ := bd_some h
    refine AR.callS (pc := 42) (As := [.long (r5.2 27 9), .int x1]) (st := []) dX8_bargain_42 ⟨cd_X8_worthIn, sm_X8_worthIn, ini_X8⟩ ml_X8_101 (A8_worthIn (r5.2 27 9) x1 r5 _ h6) ⟨rfl, pd_X8_worthIn⟩ ⟨Nat.le_of_ble_eq_true rfl, Nat.le_of_ble_eq_true rfl⟩ ⟨rfl, rfl⟩ rfl (Nat.le_of_ble_eq_true rfl) ?_
    refine AR.aload_n (pc := 45) (j := 0) dX8_bargain_45 rfl rfl ?_
    refine AR.getf (pc := 46) (ci := 8) (j := 5) (d := 27 + 2) (v := .ref 27) (T := TX8) dX8_bargain_46 rfl rfl rfl (by decide) (fun w hw => wsU_in (uw_X8 w hw)) (wsU_in fl_X8_72) rfl ?_
    refine AR.getfN (pc := 49) (ci := 1) (j := 9) (d := 1) (v := .long ((r6.2).2 27 9)) (T := TX1) dX8_bargain_49 rfl rfl rfl (by decide) (fun w hw => wsU_in (uw_X1 w hw)) fn_X8_185 rfl ?_
    refine AR.iload_n (pc := 52) (j := 2) dX8_bargain_52 rfl rfl ?_
    obtain ⟨r7, h7, h⟩ := bd_some h
    refine AR.callS (pc := 53) (As := [.long ((r6.2).2 27 9), .int x2]) (st := [.int (r6.1)]) dX8_bargain_53 ⟨cd_X8_worthIn, sm_X8_worthIn, ini_X8⟩ ml_X8_101 (A8_worthIn ((r6.2).2 27 9) x2 (r6.2) _ h7) ⟨rfl, pd_X8_worthIn⟩ ⟨Nat.le_of_ble_eq_true rfl, Nat.le_of_ble_eq_true rfl⟩ ⟨rfl, rfl⟩ rfl (Nat.le_of_ble_eq_true rfl) ?_
    refine AR.iadd (pc := 56) dX8_bargain_56 ?_
    refine AR.istore_n (pc := 57) (L2 := [(3, .int ((r6.1) + (r7.1))), (0, .ref 0), (1, .int x1), (2, .int x2)]) dX8_bargain_57 rfl (by decide) rfl ?_
    refine AR.aload_n (pc := 58) (j := 1) dX8_bargain_58 rfl rfl ?_
    refine AR.getf (pc := 59) (ci := 8) (j := 5) (d := 27 + 2) (v := .ref 27) (T := TX8) dX8_bargain_59 rfl rfl rfl (by decide) (fun w hw => wsU_in (uw_X8 w hw)) (wsU_in fl_X8_72) rfl ?_
    obtain ⟨r8, h8, h⟩ := bd_some h
    refine AR.callVN (pc := 62) (As := []) (st := []) (ci := 1) dX8_bargain_62 ⟨cd_X1_goFreely, im_X1_goFreely, se_X1_goFreely, ini_X1⟩ mn_X8_222 (A1_goFreely 20 grp20 (r7.2) _ h8) ⟨rfl, pd_X1_goFreely⟩ ⟨Nat.le_of_ble_eq_true rfl, Nat.le_of_ble_eq_true rfl⟩ ⟨rfl, rfl⟩ rfl rfl rfl (Nat.le_of_ble_eq_true rfl) ?_
    refine AR.iload_n (pc := 65) (j := 0) dX8_bargain_65 rfl rfl ?_
    refine AR.aload_n (pc := 66) (j := 1) dX8_bargain_66 rfl rfl ?_
    refine AR.getf (pc := 67) (ci := 8) (j := 5) (d := 27 + 2) (v := .ref 27) (T := TX8) dX8_bargain_67 rfl rfl rfl (by decide) (fun w hw => wsU_in (uw_X8 w hw)) (wsU_in fl_X8_72) rfl ?_
    refine AR.getfN (pc := 70) (ci := 1) (j := 9) (d := 1) (v := .long (r8.2 27 9)) (T := TX1) dX8_bargain_70 rfl rfl rfl (by decide) (fun w hw => wsU_in (uw_X1 w hw)) fn_X8_185 rfl ?_
    refine AR.iload_n (pc := 73) (j := 2) dX8_bargain_73 rfl rfl ?_
    obtain ⟨r9, h9, h⟩ := bd_some h
    refine AR.callS (pc := 74) (As := [.long (r8.2 27 9), .int x1]) (st := [.int ((r6.1) + (r7.1))]) dX8_bargain_74 ⟨cd_X8_worthIn, sm_X8_worthIn, ini_X8⟩ ml_X8_101 (A8_worthIn (r8.2 27 9) x1 r8 _ h9) ⟨rfl, pd_X8_worthIn⟩ ⟨Nat.le_of_ble_eq_true rfl, Nat.le_of_ble_eq_true rfl⟩ ⟨rfl, rfl⟩ rfl (Nat.le_of_ble_eq_true rfl) ?_
    refine AR.isub (pc := 77) dX8_bargain_77 ?_
    refine AR.aload_n (pc := 78) (j := 1) dX8_bargain_78 rfl rfl ?_
    refine AR.getf (pc := 79) (ci := 8) (j := 5) (d := 27 + 2) (v := .ref 27) (T := TX8) dX8_bargain_79 rfl rfl rfl (by decide) (fun w hw => wsU_in (uw_X8 w hw)) (wsU_in fl_X8_72) rfl ?_
    refine AR.getfN (pc := 82) (ci := 1) (j := 9) (d := 1) (v := .long ((r9.2).2 27 9)) (T := TX1) dX8_bargain_82 rfl rfl rfl (by decide) (fun w hw => wsU_in (uw_X1 w hw)) fn_X8_185 rfl ?_
    refine AR.iload_n (pc := 85) (j := 3) dX8_bargain_85 rfl rfl ?_
    obtain ⟨r10, h10, h⟩ := bd_some h
    refine AR.callS (pc := 86) (As := [.long ((r9.2).2 27 9), .int x2]) (st := [.int (((r6.1) + (r7.1)) - (r9.1))]) dX8_bargain_86 ⟨cd_X8_worthIn, sm_X8_worthIn, ini_X8⟩ ml_X8_101 (A8_worthIn ((r9.2).2 27 9) x2 (r9.2) _ h10) ⟨rfl, pd_X8_worthIn⟩ ⟨Nat.le_of_ble_eq_true rfl, Nat.le_of_ble_eq_true rfl⟩ ⟨rfl, rfl⟩ rfl (Nat.le_of_ble_eq_true rfl) ?_
    refine AR.isub (pc := 89) dX8_bargain_89 ?_
    refine AR.i2l (pc := 90) dX8_bargain_90 ?_
    exact AR.lret (pc := 91) rfl dX8_bargain_91 (hrL (Option.some.inj h))
  · replace h := ite_t c2 h
    refine AR.ldc2 (pc := 9) (v := (-9223372036854775808)) dX8_bargain_9 (wsU_in kl_X8_247) ?_
    exact AR.lret (pc := 12) rfl dX8_bargain_12 (hrL (Option.some.inj h))
