noncomputable def f9_in_17 (σ : HS) : Option (Int32 × HS) :=
  some (0, σ)
noncomputable def f9_in (x0 : Int64) (x2 : Int64) (x4 : Int64) (σ : HS) : Option (Int32 × HS) :=
  if (x0 : Int64) < x2 then
    f9_in_17 σ
  else
    if (x4 : Int64) < x0 then
      f9_in_17 σ
    else
      some (1, σ)
set_option maxHeartbeats 4000000 in
set_option maxRecDepth 100000 in
theorem A9_in_17 {l : Launch} (σ : HS) (r : Int32 × HS) (h : f9_in_17 σ = some r) : AR l RX9 cX9_in 6 (some .boolean) (wsU yX9_in cX9_in 6 (some .boolean)) rm9_in SM 17 [] [] σ (some (.int r.1), r.2) := by
  unfold f9_in_17 at h
  refine AR.iconst (pc := 17) (v := 0) dX9_in_17 (by decide) ?_
  exact AR.zret (pc := 18) rfl (Or.inl rfl) dX9_in_18 (hrI (Option.some.inj h))
set_option maxHeartbeats 4000000 in
set_option maxRecDepth 100000 in
theorem A9_in {l : Launch} (x0 : Int64) (x2 : Int64) (x4 : Int64) (σ : HS) (r : Int32 × HS) (h : f9_in x0 x2 x4 σ = some r) : MA l yX9_in (wsU yX9_in cX9_in 6 (some .boolean)) rm9_in SM [.long x0, .long x2, .long x4] σ (some (.int r.1), r.2) := by
  refine MA.of (L := [(0, .long x0), (2, .long x2), (4, .long x4)]) pn_X9_in rfl (fun _ => Nat.le_of_ble_eq_true rfl) (fun _ => rfl) ?_
  unfold f9_in at h
  refine AR.lload_n (pc := 0) (j := 0) dX9_in_0 rfl rfl ?_
  refine AR.lload_n (pc := 1) (j := 1) dX9_in_1 rfl rfl ?_
  refine AR.lcmp (pc := 2) dX9_in_2 ?_
  refine AR.if_lt (pc := 3) (tgt := 17) dX9_in_3 (by decide) (fun c1 => ?_) (fun c1 => ?_)
  · replace h := ite_t (lg_lt.mp c1) h
    exact AR.pick [] rfl (A9_in_17 σ r h)
  · replace h := ite_f (lg_lt_n.mp c1) h
    refine AR.lload_n (pc := 6) (j := 0) dX9_in_6 rfl rfl ?_
    refine AR.lload (pc := 7) (j := 2) dX9_in_7 rfl ?_
    refine AR.lcmp (pc := 9) dX9_in_9 ?_
    refine AR.if_gt (pc := 10) (tgt := 17) dX9_in_10 (by decide) (fun c2 => ?_) (fun c2 => ?_)
    · replace h := ite_t (lg_gt.mp c2) h
      exact AR.pick [] rfl (A9_in_17 σ r h)
    · replace h := ite_f (lg_gt_n.mp c2) h
      refine AR.iconst (pc := 13) (v := 1) dX9_in_13 (by decide) ?_
      refine AR.goto (pc := 14) (tgt := 18) dX9_in_14 (by decide) ?_
      exact AR.zret (pc := 18) rfl (Or.inr rfl) dX9_in_18 (hrI (Option.some.inj h))
noncomputable def f9_lost (σ : HS) : Option (Int64 × HS) :=
  some ((-9223372036854775808), σ)
set_option maxHeartbeats 4000000 in
set_option maxRecDepth 100000 in
theorem A9_lost {l : Launch} (σ : HS) (r : Int64 × HS) (h : f9_lost σ = some r) : MA l yX9_lost (wsU yX9_lost cX9_lost 0 (some .long)) rm9_lost SM [] σ (some (.long r.1), r.2) := by
  refine MA.of (L := []) pn_X9_lost rfl (fun _ => Nat.le_of_ble_eq_true rfl) (fun _ => rfl) ?_
  unfold f9_lost at h
  refine AR.ldc2 (pc := 0) (v := (-9223372036854775808)) dX9_lost_0 (wsU_in kl_X9_82) ?_
  exact AR.lret (pc := 3) rfl dX9_lost_3 (hrL (Option.some.inj h))
noncomputable def f9_greater (x0 : Int32) (x1 : Int32) (σ : HS) : Option (Int32 × HS) :=
  if (x0 : Int32) ≤ x1 then
    some (x1, σ)
  else
    some (x0, σ)
set_option maxHeartbeats 4000000 in
set_option maxRecDepth 100000 in
theorem A9_greater {l : Launch} (x0 : Int32) (x1 : Int32) (σ : HS) (r : Int32 × HS) (h : f9_greater x0 x1 σ = some r) : MA l yX9_greater (wsU yX9_greater cX9_greater 2 (some .int)) rm9_greater SM [.int x0, .int x1] σ (some (.int r.1), r.2) := by
  refine MA.of (L := [(0, .int x0), (1, .int x1)]) pn_X9_greater rfl (fun _ => Nat.le_of_ble_eq_true rfl) (fun _ => rfl) ?_
  unfold f9_greater at h
  refine AR.iload_n (pc := 0) (j := 0) dX9_greater_0 rfl rfl ?_
  refine AR.iload_n (pc := 1) (j := 1) dX9_greater_1 rfl rfl ?_
  refine AR.icmp_le (pc := 2) (tgt := 9) dX9_greater_2 (by decide) (fun c1 => ?_) (fun c1 => ?_)
  · replace h := ite_t c1 h
    refine AR.iload_n (pc := 9) (j := 1) dX9_greater_9 rfl rfl ?_
    exact AR.iret (pc := 10) rfl dX9_greater_10 (hrI (Option.some.inj h))
  · replace h := ite_f c1 h
    refine AR.iload_n (pc := 5) (j := 0) dX9_greater_5 rfl rfl ?_
    refine AR.goto (pc := 6) (tgt := 10) dX9_greater_6 (by decide) ?_
    exact AR.iret (pc := 10) rfl dX9_greater_10 (hrI (Option.some.inj h))
noncomputable def f9_told_41 (x5 : Int64) (z0 : Int64) (σ : HS) : Option (Int64 × HS) :=
  if (x5 : Int64) = 0 then none else
  some ((z0 / x5), σ)
noncomputable def f9_told_6_b (k6 : Int64 × Int64 × HS → Option (Int64 × HS)) (x0 : Int64) (x2 : Int64) (x4 : Int32) (x5 : Int64) (x7 : Int64) (σ : HS) : Option (Int64 × HS) :=
  if (x7 : Int64) = 0 then
    if (x4 : Int32) = 0 then
      f9_told_41 x5 x0 σ
    else
      f9_told_41 x5 x2 σ
  else
    if (x7 : Int64) = 0 then none else
    k6 (x7, (x5 - x5 / x7 * x7), σ)
noncomputable def f9_told_6 (x0 : Int64) (x2 : Int64) (x4 : Int32) (p : Int64 × Int64 × HS) : Option (Int64 × HS) :=
  wloop (fun k6 p => f9_told_6_b k6 x0 x2 x4 p.1 p.2.1 p.2.2) fuelN p
noncomputable def f9_told (x0 : Int64) (x2 : Int64) (x4 : Int32) (σ : HS) : Option (Int64 × HS) :=
  f9_told_6 x0 x2 x4 (x0, x2, σ)
set_option maxHeartbeats 4000000 in
set_option maxRecDepth 100000 in
theorem A9_told_41 {l : Launch} (x5 : Int64) (z0 : Int64) (σ : HS) (r : Int64 × HS) (h : f9_told_41 x5 z0 σ = some r) : AR l RX9 cX9_told 11 (some .long) (wsU yX9_told cX9_told 11 (some .long)) rm9_told SM 41 [(5, .long x5)] [.long z0] σ (some (.long r.1), r.2) := by
  unfold f9_told_41 at h
  refine AR.lload (pc := 41) (j := 0) dX9_told_41 rfl ?_
  obtain ⟨c1, h⟩ := gn_some h
  refine AR.ldiv (pc := 43) dX9_told_43 c1 ?_
  exact AR.lret (pc := 44) rfl dX9_told_44 (hrL (Option.some.inj h))
set_option maxHeartbeats 4000000 in
set_option maxRecDepth 100000 in
theorem A9_told_6_b {l : Launch} (k6 : Int64 × Int64 × HS → Option (Int64 × HS)) (x0 : Int64) (x2 : Int64) (x4 : Int32) (x5 : Int64) (x7 : Int64) (hk6 : ∀ (p : Int64 × Int64 × HS) (r : Int64 × HS), k6 p = some r → AR l RX9 cX9_told 11 (some .long) (wsU yX9_told cX9_told 11 (some .long)) rm9_told SM 6 [(0, .long x0), (2, .long x2), (4, .int x4), (5, .long (p.1)), (7, .long (p.2.1))] [] p.2.2 (some (.long r.1), r.2)) (σ : HS) (r : Int64 × HS) (h : f9_told_6_b k6 x0 x2 x4 x5 x7 σ = some r) : AR l RX9 cX9_told 11 (some .long) (wsU yX9_told cX9_told 11 (some .long)) rm9_told SM 6 [(0, .long x0), (2, .long x2), (4, .int x4), (5, .long x5), (7, .long x7)] [] σ (some (.long r.1), r.2) := by
  unfold f9_told_6_b at h
  refine AR.lload (pc := 6) (j := 4) dX9_told_6 rfl ?_
  refine AR.lconst (pc := 8) (v := 0) dX9_told_8 (by decide) ?_
  refine AR.lcmp (pc := 9) dX9_told_9 ?_
  refine AR.if_eq (pc := 10) (tgt := 31) dX9_told_10 (by decide) (fun c1 => ?_) (fun c1 => ?_)
  · replace h := ite_t (lg_eq.mp c1) h
    refine AR.iload (pc := 31) (j := 2) dX9_told_31 rfl ?_
    refine AR.if_ne (pc := 33) (tgt := 40) dX9_told_33 (by decide) (fun c2 => ?_) (fun c2 => ?_)
    · replace h := ite_f c2 h
      refine AR.lload_n (pc := 40) (j := 1) dX9_told_40 rfl rfl ?_
      exact AR.pick [3] rfl (A9_told_41 x5 x2 σ r h)
    · replace h := ite_t c2 h
      refine AR.lload_n (pc := 36) (j := 0) dX9_told_36 rfl rfl ?_
      refine AR.goto (pc := 37) (tgt := 41) dX9_told_37 (by decide) ?_
      exact AR.pick [3] rfl (A9_told_41 x5 x0 σ r h)
  · replace h := ite_f (lg_eq_n.mp c1) h
    refine AR.lload (pc := 13) (j := 3) dX9_told_13 rfl ?_
    refine AR.lload (pc := 15) (j := 4) dX9_told_15 rfl ?_
    obtain ⟨c3, h⟩ := gn_some h
    refine AR.lrem (pc := 17) dX9_told_17 c3 ?_
    refine AR.lstore (pc := 18) (L2 := [(9, .long (x5 - x5 / x7 * x7)), (0, .long x0), (2, .long x2), (4, .int x4), (5, .long x5), (7, .long x7)]) dX9_told_18 (by decide) rfl ?_
    refine AR.lload (pc := 20) (j := 5) dX9_told_20 rfl ?_
    refine AR.lstore (pc := 22) (L2 := [(5, .long x7), (9, .long (x5 - x5 / x7 * x7)), (0, .long x0), (2, .long x2), (4, .int x4), (7, .long x7)]) dX9_told_22 (by decide) rfl ?_
    refine AR.lload (pc := 24) (j := 1) dX9_told_24 rfl ?_
    refine AR.lstore (pc := 26) (L2 := [(7, .long (x5 - x5 / x7 * x7)), (5, .long x7), (9, .long (x5 - x5 / x7 * x7)), (0, .long x0), (2, .long x2), (4, .int x4)]) dX9_told_26 (by decide) rfl ?_
    refine AR.goto (pc := 28) (tgt := 6) dX9_told_28 (by decide) ?_
    exact AR.pick [3, 4, 5, 1, 0] rfl (hk6 (x7, (x5 - x5 / x7 * x7), σ) r h)
theorem A9_told_6 {l : Launch} (x0 : Int64) (x2 : Int64) (x4 : Int32) (p : Int64 × Int64 × HS) (r : Int64 × HS) (h : f9_told_6 x0 x2 x4 p = some r) : AR l RX9 cX9_told 11 (some .long) (wsU yX9_told cX9_told 11 (some .long)) rm9_told SM 6 [(0, .long x0), (2, .long x2), (4, .int x4), (5, .long (p.1)), (7, .long (p.2.1))] [] p.2.2 (some (.long r.1), r.2) := by
  unfold f9_told_6 at h
  exact wloop_run (body := fun k6 p => f9_told_6_b k6 x0 x2 x4 p.1 p.2.1 p.2.2) (Q := fun p r => AR l RX9 cX9_told 11 (some .long) (wsU yX9_told cX9_told 11 (some .long)) rm9_told SM 6 [(0, .long x0), (2, .long x2), (4, .int x4), (5, .long (p.1)), (7, .long (p.2.1))] [] p.2.2 (some (.long r.1), r.2)) (fun k6 hk6 p r h => A9_told_6_b k6 x0 x2 x4 p.1 p.2.1 hk6 p.2.2 r h) fuelN p r h
set_option maxHeartbeats 4000000 in
set_option maxRecDepth 100000 in
theorem A9_told {l : Launch} (x0 : Int64) (x2 : Int64) (x4 : Int32) (σ : HS) (r : Int64 × HS) (h : f9_told x0 x2 x4 σ = some r) : MA l yX9_told (wsU yX9_told cX9_told 11 (some .long)) rm9_told SM [.long x0, .long x2, .int x4] σ (some (.long r.1), r.2) := by
  refine MA.of (L := [(0, .long x0), (2, .long x2), (4, .int x4)]) pn_X9_told rfl (fun _ => Nat.le_of_ble_eq_true rfl) (fun _ => rfl) ?_
  unfold f9_told at h
  refine AR.lload_n (pc := 0) (j := 0) dX9_told_0 rfl rfl ?_
  refine AR.lstore (pc := 1) (L2 := [(5, .long x0), (0, .long x0), (2, .long x2), (4, .int x4)]) dX9_told_1 (by decide) rfl ?_
  refine AR.lload_n (pc := 3) (j := 2) dX9_told_3 rfl rfl ?_
  refine AR.lstore (pc := 4) (L2 := [(7, .long x2), (5, .long x0), (0, .long x0), (2, .long x2), (4, .int x4)]) dX9_told_4 (by decide) rfl ?_
  exact AR.pick [2, 3, 4, 1, 0] rfl (A9_told_6 x0 x2 x4 (x0, x2, σ) r h)
noncomputable def f9_refused (x1 : Int32) (σ : HS) : Option (Int32 × HS) :=
  some (x1, (uI σ 0 0 0))
set_option maxHeartbeats 4000000 in
set_option maxRecDepth 100000 in
theorem A9_refused {l : Launch} (x1 : Int32) (σ : HS) (r : Int32 × HS) (h : f9_refused x1 σ = some r) : MA l yX9_refused (wsU yX9_refused cX9_refused 2 (some .int)) rm9_refused SM [.ref 0, .int x1] σ (some (.int r.1), r.2) := by
  refine MA.of (L := [(0, .ref 0), (1, .int x1)]) pn_X9_refused rfl (fun _ => Nat.le_of_ble_eq_true rfl) (fun _ => rfl) ?_
  unfold f9_refused at h
  refine AR.aload_n (pc := 0) (j := 0) dX9_refused_0 rfl rfl ?_
  refine AR.iconst (pc := 1) (v := 0) dX9_refused_1 (by decide) ?_
  refine AR.putI (pc := 2) (ci := 9) (j := 0) (T := TX9) (ty0 := tyX9) (ty := .int) dX9_refused_2 rfl rfl rfl (by decide) (fun w hw => wsU_in (uw_X9 w hw)) tyX9_ok nmX9 (wsU_in fl_X9_84) rfl (by decide +kernel) rfl rfl ?_
  refine AR.iload_n (pc := 5) (j := 1) dX9_refused_5 rfl rfl ?_
  exact AR.iret (pc := 6) rfl dX9_refused_6 (hrI (Option.some.inj h))
noncomputable def f9_failed (x1 : Int32) (σ : HS) : Option (Int32 × HS) :=
  some (((-10) - x1), (uI σ 0 0 x1))
set_option maxHeartbeats 4000000 in
set_option maxRecDepth 100000 in
theorem A9_failed {l : Launch} (x1 : Int32) (σ : HS) (r : Int32 × HS) (h : f9_failed x1 σ = some r) : MA l yX9_failed (wsU yX9_failed cX9_failed 2 (some .int)) rm9_failed SM [.ref 0, .int x1] σ (some (.int r.1), r.2) := by
  refine MA.of (L := [(0, .ref 0), (1, .int x1)]) pn_X9_failed rfl (fun _ => Nat.le_of_ble_eq_true rfl) (fun _ => rfl) ?_
  unfold f9_failed at h
  refine AR.aload_n (pc := 0) (j := 0) dX9_failed_0 rfl rfl ?_
  refine AR.iload_n (pc := 1) (j := 1) dX9_failed_1 rfl rfl ?_
  refine AR.putI (pc := 2) (ci := 9) (j := 0) (T := TX9) (ty0 := tyX9) (ty := .int) dX9_failed_2 rfl rfl rfl (by decide) (fun w hw => wsU_in (uw_X9 w hw)) tyX9_ok nmX9 (wsU_in fl_X9_84) rfl (by decide +kernel) rfl rfl ?_
  refine AR.bipush (pc := 5) (v := (-10)) dX9_failed_5 (by decide) ?_
  refine AR.iload_n (pc := 7) (j := 1) dX9_failed_7 rfl rfl ?_
  refine AR.isub (pc := 8) dX9_failed_8 ?_
  exact AR.iret (pc := 9) rfl dX9_failed_9 (hrI (Option.some.inj h))
noncomputable def f9_failedLong (x1 : Int32) (σ : HS) : Option (Int64 × HS) :=
  bd (f9_lost (uI σ 0 0 x1)) fun r1 =>
  some (r1.1, r1.2)
set_option maxHeartbeats 4000000 in
set_option maxRecDepth 100000 in
theorem A9_failedLong {l : Launch} (x1 : Int32) (σ : HS) (r : Int64 × HS) (h : f9_failedLong x1 σ = some r) : MA l yX9_failedLong (wsU yX9_failedLong cX9_failedLong 2 (some .long)) rm9_failedLong SM [.ref 0, .int x1] σ (some (.long r.1), r.2) := by
  refine MA.of (L := [(0, .ref 0), (1, .int x1)]) pn_X9_failedLong rfl (fun _ => Nat.le_of_ble_eq_true rfl) (fun _ => rfl) ?_
  unfold f9_failedLong at h
  refine AR.aload_n (pc := 0) (j := 0) dX9_failedLong_0 rfl rfl ?_
  refine AR.iload_n (pc := 1) (j := 1) dX9_failedLong_1 rfl rfl ?_
  refine AR.putI (pc := 2) (ci := 9) (j := 0) (T := TX9) (ty0 := tyX9) (ty := .int) dX9_failedLong_2 rfl rfl rfl (by decide) (fun w hw => wsU_in (uw_X9 w hw)) tyX9_ok nmX9 (wsU_in fl_X9_84) rfl (by decide +kernel) rfl rfl ?_
  obtain ⟨r1, h1, h⟩ := bd_some h
  refine AR.callS (pc := 5) (As := []) (st := []) dX9_failedLong_5 ⟨cd_X9_lost, sm_X9_lost, ini_X9⟩ ml_X9_88 (A9_lost (uI σ 0 0 x1) _ h1) ⟨rfl, pd_X9_lost⟩ ⟨Nat.le_of_ble_eq_true rfl, Nat.le_of_ble_eq_true rfl⟩ ⟨rfl, rfl⟩ rfl (Nat.le_of_ble_eq_true rfl) ?_
  exact AR.lret (pc := 8) rfl dX9_failedLong_8 (hrL (Option.some.inj h))
noncomputable def f9_noSheet (x0 : Int32) (σ : HS) : Option (Int32 × HS) :=
  bd (f9_in ((x0 : Int32).toInt64) 0 3 σ) fun r1 =>
  if (r1.1 : Int32) = 0 then
    some (1, r1.2)
  else
    some (0, r1.2)
set_option maxHeartbeats 4000000 in
set_option maxRecDepth 100000 in
theorem A9_noSheet {l : Launch} (x0 : Int32) (σ : HS) (r : Int32 × HS) (h : f9_noSheet x0 σ = some r) : MA l yX9_noSheet (wsU yX9_noSheet cX9_noSheet 1 (some .boolean)) rm9_noSheet SM [.int x0] σ (some (.int r.1), r.2) := by
  refine MA.of (L := [(0, .int x0)]) pn_X9_noSheet rfl (fun _ => Nat.le_of_ble_eq_true rfl) (fun _ => rfl) ?_
  unfold f9_noSheet at h
  refine AR.iload_n (pc := 0) (j := 0) dX9_noSheet_0 rfl rfl ?_
  refine AR.i2l (pc := 1) dX9_noSheet_1 ?_
  refine AR.lconst (pc := 2) (v := 0) dX9_noSheet_2 (by decide) ?_
  refine AR.ldc2 (pc := 3) (v := 3) dX9_noSheet_3 (wsU_in kl_X9_185) ?_
  obtain ⟨r1, h1, h⟩ := bd_some h
  refine AR.callS (pc := 6) (As := [.long ((x0 : Int32).toInt64), .long 0, .long 3]) (st := []) dX9_noSheet_6 ⟨cd_X9_in, sm_X9_in, ini_X9⟩ ml_X9_102 (A9_in ((x0 : Int32).toInt64) 0 3 σ _ h1) ⟨rfl, pd_X9_in⟩ ⟨Nat.le_of_ble_eq_true rfl, Nat.le_of_ble_eq_true rfl⟩ ⟨rfl, rfl⟩ rfl (Nat.le_of_ble_eq_true rfl) ?_
  refine AR.if_ne (pc := 9) (tgt := 16) dX9_noSheet_9 (by decide) (fun c2 => ?_) (fun c2 => ?_)
  · replace h := ite_f c2 h
    refine AR.iconst (pc := 16) (v := 0) dX9_noSheet_16 (by decide) ?_
    exact AR.zret (pc := 17) rfl (Or.inl rfl) dX9_noSheet_17 (hrI (Option.some.inj h))
  · replace h := ite_t c2 h
    refine AR.iconst (pc := 12) (v := 1) dX9_noSheet_12 (by decide) ?_
    refine AR.goto (pc := 13) (tgt := 17) dX9_noSheet_13 (by decide) ?_
    exact AR.zret (pc := 17) rfl (Or.inr rfl) dX9_noSheet_17 (hrI (Option.some.inj h))
noncomputable def f9_isBeyond_20 (σ : HS) : Option (Int32 × HS) :=
  some (1, σ)
noncomputable def f9_isBeyond (x0 : Int32) (x1 : Int64) (x3 : Int32) (σ : HS) : Option (Int32 × HS) :=
  if (x0 : Int32) < 0 then
    f9_isBeyond_20 σ
  else
    if (x1 : Int64) < 0 then
      f9_isBeyond_20 σ
    else
      if ((x3 : Int32).toInt64 : Int64) < (((x0 : Int32).toInt64) + x1) then
        f9_isBeyond_20 σ
      else
        some (0, σ)
set_option maxHeartbeats 4000000 in
set_option maxRecDepth 100000 in
theorem A9_isBeyond_20 {l : Launch} (σ : HS) (r : Int32 × HS) (h : f9_isBeyond_20 σ = some r) : AR l RX9 cX9_isBeyond 4 (some .boolean) (wsU yX9_isBeyond cX9_isBeyond 4 (some .boolean)) rm9_isBeyond SM 20 [] [] σ (some (.int r.1), r.2) := by
  unfold f9_isBeyond_20 at h
  refine AR.iconst (pc := 20) (v := 1) dX9_isBeyond_20 (by decide) ?_
  refine AR.goto (pc := 21) (tgt := 25) dX9_isBeyond_21 (by decide) ?_
  exact AR.zret (pc := 25) rfl (Or.inr rfl) dX9_isBeyond_25 (hrI (Option.some.inj h))
set_option maxHeartbeats 4000000 in
set_option maxRecDepth 100000 in
theorem A9_isBeyond {l : Launch} (x0 : Int32) (x1 : Int64) (x3 : Int32) (σ : HS) (r : Int32 × HS) (h : f9_isBeyond x0 x1 x3 σ = some r) : MA l yX9_isBeyond (wsU yX9_isBeyond cX9_isBeyond 4 (some .boolean)) rm9_isBeyond SM [.int x0, .long x1, .int x3] σ (some (.int r.1), r.2) := by
  refine MA.of (L := [(0, .int x0), (1, .long x1), (3, .int x3)]) pn_X9_isBeyond rfl (fun _ => Nat.le_of_ble_eq_true rfl) (fun _ => rfl) ?_
  unfold f9_isBeyond at h
  refine AR.iload_n (pc := 0) (j := 0) dX9_isBeyond_0 rfl rfl ?_
  refine AR.if_lt (pc := 1) (tgt := 20) dX9_isBeyond_1 (by decide) (fun c1 => ?_) (fun c1 => ?_)
  · replace h := ite_t c1 h
    exact AR.pick [] rfl (A9_isBeyond_20 σ r h)
  · replace h := ite_f c1 h
    refine AR.lload_n (pc := 4) (j := 1) dX9_isBeyond_4 rfl rfl ?_
    refine AR.lconst (pc := 5) (v := 0) dX9_isBeyond_5 (by decide) ?_
    refine AR.lcmp (pc := 6) dX9_isBeyond_6 ?_
    refine AR.if_lt (pc := 7) (tgt := 20) dX9_isBeyond_7 (by decide) (fun c2 => ?_) (fun c2 => ?_)
    · replace h := ite_t (lg_lt.mp c2) h
      exact AR.pick [] rfl (A9_isBeyond_20 σ r h)
    · replace h := ite_f (lg_lt_n.mp c2) h
      refine AR.iload_n (pc := 10) (j := 0) dX9_isBeyond_10 rfl rfl ?_
      refine AR.i2l (pc := 11) dX9_isBeyond_11 ?_
      refine AR.lload_n (pc := 12) (j := 1) dX9_isBeyond_12 rfl rfl ?_
      refine AR.ladd (pc := 13) dX9_isBeyond_13 ?_
      refine AR.iload_n (pc := 14) (j := 2) dX9_isBeyond_14 rfl rfl ?_
      refine AR.i2l (pc := 15) dX9_isBeyond_15 ?_
      refine AR.lcmp (pc := 16) dX9_isBeyond_16 ?_
      refine AR.if_le (pc := 17) (tgt := 24) dX9_isBeyond_17 (by decide) (fun c3 => ?_) (fun c3 => ?_)
      · replace h := ite_f (lg_le.mp c3) h
        refine AR.iconst (pc := 24) (v := 0) dX9_isBeyond_24 (by decide) ?_
        exact AR.zret (pc := 25) rfl (Or.inl rfl) dX9_isBeyond_25 (hrI (Option.some.inj h))
      · replace h := ite_t (lg_le_n.mp c3) h
        exact AR.pick [] rfl (A9_isBeyond_20 σ r h)
noncomputable def f9_barred_57 (x1 : Int32) (x3 : Int32) (x4 : Int64) (σ : HS) : Option (Int32 × HS) :=
  if (x1 : Int32) < 0 ∨ 4 ≤ (x1 : Int32).toNatClampNeg then none else
  if 0 ≤ ((σ.1 21 (x1 : Int32).toNatClampNeg) : Int32) then
    if (x4 : Int64) < 0 then
      bd (f9_failed 4 σ) fun r8 =>
      some (r8.1, r8.2)
    else
      if (x1 : Int32) < 0 ∨ 4 ≤ (x1 : Int32).toNatClampNeg then none else
      bd (f9_isBeyond x3 x4 (σ.1 21 (x1 : Int32).toNatClampNeg) σ) fun r5 =>
      if (r5.1 : Int32) = 0 then
        some (0, r5.2)
      else
        bd (f9_failed 3 (r5.2)) fun r7 =>
        some (r7.1, r7.2)
  else
    bd (f9_failed 1 σ) fun r9 =>
    some (r9.1, r9.2)
noncomputable def f9_barred (x1 : Int32) (x2 : Int32) (x3 : Int32) (x4 : Int64) (σ : HS) : Option (Int32 × HS) :=
  bd (f9_noSheet x1 σ) fun r1 =>
  if (r1.1 : Int32) = 0 then
    bd (f9_in ((x2 : Int32).toInt64) 0 2 (r1.2)) fun r3 =>
    if (r3.1 : Int32) = 0 then
      bd (f9_refused (-2) (r3.2)) fun r10 =>
      some (r10.1, r10.2)
    else
      if (x1 : Int32) < 0 ∨ 4 ≤ (x1 : Int32).toNatClampNeg then none else
      if (((r3.2).1 21 (x1 : Int32).toNatClampNeg) : Int32) < 0 then
        f9_barred_57 x1 x3 x4 (r3.2)
      else
        if (x1 : Int32) < 0 ∨ 4 ≤ (x1 : Int32).toNatClampNeg then none else
        if (((r3.2).1 22 (x1 : Int32).toNatClampNeg) : Int32) = x2 then
          f9_barred_57 x1 x3 x4 (r3.2)
        else
          bd (f9_failed 2 (r3.2)) fun r9 =>
          some (r9.1, r9.2)
  else
    bd (f9_refused (-1) (r1.2)) fun r11 =>
    some (r11.1, r11.2)
set_option maxHeartbeats 4000000 in
set_option maxRecDepth 100000 in
theorem A9_barred_57 {l : Launch} (x1 : Int32) (x3 : Int32) (x4 : Int64) (σ : HS) (r : Int32 × HS) (h : f9_barred_57 x1 x3 x4 σ = some r) : AR l RX9 cX9_barred 6 (some .int) (wsU yX9_barred cX9_barred 6 (some .int)) rm9_barred SM 57 [(0, .ref 0), (1, .int x1), (3, .int x3), (4, .long x4)] [] σ (some (.int r.1), r.2) := by
  unfold f9_barred_57 at h
  refine AR.aload_n (pc := 57) (j := 0) dX9_barred_57 rfl rfl ?_
  refine AR.getf (pc := 58) (ci := 9) (j := 32) (d := 21 + 2) (v := .ref 21) (T := TX9) dX9_barred_58 rfl rfl rfl (by decide) (fun w hw => wsU_in (uw_X9 w hw)) (wsU_in fl_X9_70) rfl ?_
  refine AR.iload_n (pc := 61) (j := 1) dX9_barred_61 rfl rfl ?_
  obtain ⟨c1, h⟩ := gn_some h
  refine AR.iaload (pc := 62) dX9_barred_62 rfl c1 ?_
  refine AR.if_ge (pc := 63) (tgt := 72) dX9_barred_63 (by decide) (fun c2 => ?_) (fun c2 => ?_)
  · replace h := ite_t c2 h
    refine AR.lload (pc := 72) (j := 3) dX9_barred_72 rfl ?_
    refine AR.lconst (pc := 74) (v := 0) dX9_barred_74 (by decide) ?_
    refine AR.lcmp (pc := 75) dX9_barred_75 ?_
    refine AR.if_ge (pc := 76) (tgt := 85) dX9_barred_76 (by decide) (fun c3 => ?_) (fun c3 => ?_)
    · replace h := ite_f (lg_ge.mp c3) h
      refine AR.iload_n (pc := 85) (j := 2) dX9_barred_85 rfl rfl ?_
      refine AR.lload (pc := 86) (j := 3) dX9_barred_86 rfl ?_
      refine AR.aload_n (pc := 88) (j := 0) dX9_barred_88 rfl rfl ?_
      refine AR.getf (pc := 89) (ci := 9) (j := 32) (d := 21 + 2) (v := .ref 21) (T := TX9) dX9_barred_89 rfl rfl rfl (by decide) (fun w hw => wsU_in (uw_X9 w hw)) (wsU_in fl_X9_70) rfl ?_
      refine AR.iload_n (pc := 92) (j := 1) dX9_barred_92 rfl rfl ?_
      obtain ⟨c4, h⟩ := gn_some h
      refine AR.iaload (pc := 93) dX9_barred_93 rfl c4 ?_
      obtain ⟨r5, h5, h⟩ := bd_some h
      refine AR.callS (pc := 94) (As := [.int x3, .long x4, .int (σ.1 21 (x1 : Int32).toNatClampNeg)]) (st := []) dX9_barred_94 ⟨cd_X9_isBeyond, sm_X9_isBeyond, ini_X9⟩ ml_X9_109 (A9_isBeyond x3 x4 (σ.1 21 (x1 : Int32).toNatClampNeg) σ _ h5) ⟨rfl, pd_X9_isBeyond⟩ ⟨Nat.le_of_ble_eq_true rfl, Nat.le_of_ble_eq_true rfl⟩ ⟨rfl, rfl⟩ rfl (Nat.le_of_ble_eq_true rfl) ?_
      refine AR.if_eq (pc := 97) (tgt := 108) dX9_barred_97 (by decide) (fun c6 => ?_) (fun c6 => ?_)
      · replace h := ite_t c6 h
        refine AR.iconst (pc := 108) (v := 0) dX9_barred_108 (by decide) ?_
        exact AR.iret (pc := 109) rfl dX9_barred_109 (hrI (Option.some.inj h))
      · replace h := ite_f c6 h
        refine AR.aload_n (pc := 100) (j := 0) dX9_barred_100 rfl rfl ?_
        refine AR.iconst (pc := 101) (v := 3) dX9_barred_101 (by decide) ?_
        obtain ⟨r7, h7, h⟩ := bd_some h
        refine AR.callV (pc := 102) (As := [.int 3]) (st := []) (ci := 9) dX9_barred_102 ⟨cd_X9_failed, im_X9_failed, se_X9_failed, ini_X9⟩ ml_X9_106 (A9_failed 3 (r5.2) _ h7) ⟨rfl, pd_X9_failed⟩ ⟨Nat.le_of_ble_eq_true rfl, Nat.le_of_ble_eq_true rfl⟩ ⟨rfl, rfl⟩ rfl rfl rfl (Nat.le_of_ble_eq_true rfl) ?_
        refine AR.goto (pc := 105) (tgt := 109) dX9_barred_105 (by decide) ?_
        exact AR.iret (pc := 109) rfl dX9_barred_109 (hrI (Option.some.inj h))
    · replace h := ite_t (lg_ge_n.mp c3) h
      refine AR.aload_n (pc := 79) (j := 0) dX9_barred_79 rfl rfl ?_
      refine AR.iconst (pc := 80) (v := 4) dX9_barred_80 (by decide) ?_
      obtain ⟨r8, h8, h⟩ := bd_some h
      refine AR.callV (pc := 81) (As := [.int 4]) (st := []) (ci := 9) dX9_barred_81 ⟨cd_X9_failed, im_X9_failed, se_X9_failed, ini_X9⟩ ml_X9_106 (A9_failed 4 σ _ h8) ⟨rfl, pd_X9_failed⟩ ⟨Nat.le_of_ble_eq_true rfl, Nat.le_of_ble_eq_true rfl⟩ ⟨rfl, rfl⟩ rfl rfl rfl (Nat.le_of_ble_eq_true rfl) ?_
      exact AR.iret (pc := 84) rfl dX9_barred_84 (hrI (Option.some.inj h))
  · replace h := ite_f c2 h
    refine AR.aload_n (pc := 66) (j := 0) dX9_barred_66 rfl rfl ?_
    refine AR.iconst (pc := 67) (v := 1) dX9_barred_67 (by decide) ?_
    obtain ⟨r9, h9, h⟩ := bd_some h
    refine AR.callV (pc := 68) (As := [.int 1]) (st := []) (ci := 9) dX9_barred_68 ⟨cd_X9_failed, im_X9_failed, se_X9_failed, ini_X9⟩ ml_X9_106 (A9_failed 1 σ _ h9) ⟨rfl, pd_X9_failed⟩ ⟨Nat.le_of_ble_eq_true rfl, Nat.le_of_ble_eq_true rfl⟩ ⟨rfl, rfl⟩ rfl rfl rfl (Nat.le_of_ble_eq_true rfl) ?_
    exact AR.iret (pc := 71) rfl dX9_barred_71 (hrI (Option.some.inj h))
set_option maxHeartbeats 4000000 in
set_option maxRecDepth 100000 in
theorem A9_barred {l : Launch} (x1 : Int32) (x2 : Int32) (x3 : Int32) (x4 : Int64) (σ : HS) (r : Int32 × HS) (h : f9_barred x1 x2 x3 x4 σ = some r) : MA l yX9_barred (wsU yX9_barred cX9_barred 6 (some .int)) rm9_barred SM [.ref 0, .int x1, .int x2, .int x3, .long x4] σ (some (.int r.1), r.2) := by
  refine MA.of (L := [(0, .ref 0), (1, .int x1), (2, .int x2), (3, .int x3), (4, .long x4)]) pn_X9_barred rfl (fun _ => Nat.le_of_ble_eq_true rfl) (fun _ => rfl) ?_
  unfold f9_barred at h
  refine AR.iload_n (pc := 0) (j := 1) dX9_barred_0 rfl rfl ?_
  obtain ⟨r1, h1, h⟩ := bd_some h
  refine AR.callS (pc := 1) (As := [.int x1]) (st := []) dX9_barred_1 ⟨cd_X9_noSheet, sm_X9_noSheet, ini_X9⟩ ml_X9_92 (A9_noSheet x1 σ _ h1) ⟨rfl, pd_X9_noSheet⟩ ⟨Nat.le_of_ble_eq_true rfl, Nat.le_of_ble_eq_true rfl⟩ ⟨rfl, rfl⟩ rfl (Nat.le_of_ble_eq_true rfl) ?_
  refine AR.if_eq (pc := 4) (tgt := 13) dX9_barred_4 (by decide) (fun c2 => ?_) (fun c2 => ?_)
  · replace h := ite_t c2 h
    refine AR.iload_n (pc := 13) (j := 2) dX9_barred_13 rfl rfl ?_
    refine AR.i2l (pc := 14) dX9_barred_14 ?_
    refine AR.lconst (pc := 15) (v := 0) dX9_barred_15 (by decide) ?_
    refine AR.ldc2 (pc := 16) (v := 2) dX9_barred_16 (wsU_in kl_X9_100) ?_
    obtain ⟨r3, h3, h⟩ := bd_some h
    refine AR.callS (pc := 19) (As := [.long ((x2 : Int32).toInt64), .long 0, .long 2]) (st := []) dX9_barred_19 ⟨cd_X9_in, sm_X9_in, ini_X9⟩ ml_X9_102 (A9_in ((x2 : Int32).toInt64) 0 2 (r1.2) _ h3) ⟨rfl, pd_X9_in⟩ ⟨Nat.le_of_ble_eq_true rfl, Nat.le_of_ble_eq_true rfl⟩ ⟨rfl, rfl⟩ rfl (Nat.le_of_ble_eq_true rfl) ?_
    refine AR.if_ne (pc := 22) (tgt := 32) dX9_barred_22 (by decide) (fun c4 => ?_) (fun c4 => ?_)
    · replace h := ite_f c4 h
      refine AR.aload_n (pc := 32) (j := 0) dX9_barred_32 rfl rfl ?_
      refine AR.getf (pc := 33) (ci := 9) (j := 32) (d := 21 + 2) (v := .ref 21) (T := TX9) dX9_barred_33 rfl rfl rfl (by decide) (fun w hw => wsU_in (uw_X9 w hw)) (wsU_in fl_X9_70) rfl ?_
      refine AR.iload_n (pc := 36) (j := 1) dX9_barred_36 rfl rfl ?_
      obtain ⟨c5, h⟩ := gn_some h
      refine AR.iaload (pc := 37) dX9_barred_37 rfl c5 ?_
      refine AR.if_lt (pc := 38) (tgt := 57) dX9_barred_38 (by decide) (fun c6 => ?_) (fun c6 => ?_)
      · replace h := ite_t c6 h
        exact AR.pick [0, 1, 3, 4] rfl (A9_barred_57 x1 x3 x4 (r3.2) r h)
      · replace h := ite_f c6 h
        refine AR.aload_n (pc := 41) (j := 0) dX9_barred_41 rfl rfl ?_
        refine AR.getf (pc := 42) (ci := 9) (j := 33) (d := 22 + 2) (v := .ref 22) (T := TX9) dX9_barred_42 rfl rfl rfl (by decide) (fun w hw => wsU_in (uw_X9 w hw)) (wsU_in fl_X9_73) rfl ?_
        refine AR.iload_n (pc := 45) (j := 1) dX9_barred_45 rfl rfl ?_
        obtain ⟨c7, h⟩ := gn_some h
        refine AR.iaload (pc := 46) dX9_barred_46 rfl c7 ?_
        refine AR.iload_n (pc := 47) (j := 2) dX9_barred_47 rfl rfl ?_
        refine AR.icmp_eq (pc := 48) (tgt := 57) dX9_barred_48 (by decide) (fun c8 => ?_) (fun c8 => ?_)
        · replace h := ite_t c8 h
          exact AR.pick [0, 1, 3, 4] rfl (A9_barred_57 x1 x3 x4 (r3.2) r h)
        · replace h := ite_f c8 h
          refine AR.aload_n (pc := 51) (j := 0) dX9_barred_51 rfl rfl ?_
          refine AR.iconst (pc := 52) (v := 2) dX9_barred_52 (by decide) ?_
          obtain ⟨r9, h9, h⟩ := bd_some h
          refine AR.callV (pc := 53) (As := [.int 2]) (st := []) (ci := 9) dX9_barred_53 ⟨cd_X9_failed, im_X9_failed, se_X9_failed, ini_X9⟩ ml_X9_106 (A9_failed 2 (r3.2) _ h9) ⟨rfl, pd_X9_failed⟩ ⟨Nat.le_of_ble_eq_true rfl, Nat.le_of_ble_eq_true rfl⟩ ⟨rfl, rfl⟩ rfl rfl rfl (Nat.le_of_ble_eq_true rfl) ?_
          exact AR.iret (pc := 56) rfl dX9_barred_56 (hrI (Option.some.inj h))
    · replace h := ite_t c4 h
      refine AR.aload_n (pc := 25) (j := 0) dX9_barred_25 rfl rfl ?_
      refine AR.bipush (pc := 26) (v := (-2)) dX9_barred_26 (by decide) ?_
      obtain ⟨r10, h10, h⟩ := bd_some h
      refine AR.callV (pc := 28) (As := [.int (-2)]) (st := []) (ci := 9) dX9_barred_28 ⟨cd_X9_refused, im_X9_refused, se_X9_refused, ini_X9⟩ ml_X9_96 (A9_refused (-2) (r3.2) _ h10) ⟨rfl, pd_X9_refused⟩ ⟨Nat.le_of_ble_eq_true rfl, Nat.le_of_ble_eq_true rfl⟩ ⟨rfl, rfl⟩ rfl rfl rfl (Nat.le_of_ble_eq_true rfl) ?_
      exact AR.iret (pc := 31) rfl dX9_barred_31 (hrI (Option.some.inj h))
  · replace h := ite_f c2 h
    refine AR.aload_n (pc := 7) (j := 0) dX9_barred_7 rfl rfl ?_
    refine AR.iconst (pc := 8) (v := (-1)) dX9_barred_8 (by decide) ?_
    obtain ⟨r11, h11, h⟩ := bd_some h
    refine AR.callV (pc := 9) (As := [.int (-1)]) (st := []) (ci := 9) dX9_barred_9 ⟨cd_X9_refused, im_X9_refused, se_X9_refused, ini_X9⟩ ml_X9_96 (A9_refused (-1) (r1.2) _ h11) ⟨rfl, pd_X9_refused⟩ ⟨Nat.le_of_ble_eq_true rfl, Nat.le_of_ble_eq_true rfl⟩ ⟨rfl, rfl⟩ rfl rfl rfl (Nat.le_of_ble_eq_true rfl) ?_
    exact AR.iret (pc := 12) rfl dX9_barred_12 (hrI (Option.some.inj h))
noncomputable def f9_noSpeaker (x1 : Int32) (σ : HS) : Option (Int32 × HS) :=
  bd (f9_in ((x1 : Int32).toInt64) 0 ((((σ.1 0 1) : Int32).toInt64) - 1) σ) fun r1 =>
  if (r1.1 : Int32) = 0 then
    some (1, r1.2)
  else
    some (0, r1.2)
set_option maxHeartbeats 4000000 in
set_option maxRecDepth 100000 in
theorem A9_noSpeaker {l : Launch} (x1 : Int32) (σ : HS) (r : Int32 × HS) (h : f9_noSpeaker x1 σ = some r) : MA l yX9_noSpeaker (wsU yX9_noSpeaker cX9_noSpeaker 2 (some .boolean)) rm9_noSpeaker SM [.ref 0, .int x1] σ (some (.int r.1), r.2) := by
  refine MA.of (L := [(0, .ref 0), (1, .int x1)]) pn_X9_noSpeaker rfl (fun _ => Nat.le_of_ble_eq_true rfl) (fun _ => rfl) ?_
  unfold f9_noSpeaker at h
  refine AR.iload_n (pc := 0) (j := 1) dX9_noSpeaker_0 rfl rfl ?_
  refine AR.i2l (pc := 1) dX9_noSpeaker_1 ?_
  refine AR.lconst (pc := 2) (v := 0) dX9_noSpeaker_2 (by decide) ?_
  refine AR.aload_n (pc := 3) (j := 0) dX9_noSpeaker_3 rfl rfl ?_
  refine AR.getf (pc := 4) (ci := 9) (j := 1) (d := 0) (v := .int (σ.1 0 1)) (T := TX9) dX9_noSpeaker_4 rfl rfl rfl (by decide) (fun w hw => wsU_in (uw_X9 w hw)) (wsU_in fl_X9_113) rfl ?_
  refine AR.i2l (pc := 7) dX9_noSpeaker_7 ?_
  refine AR.lconst (pc := 8) (v := 1) dX9_noSpeaker_8 (by decide) ?_
  refine AR.lsub (pc := 9) dX9_noSpeaker_9 ?_
  obtain ⟨r1, h1, h⟩ := bd_some h
  refine AR.callS (pc := 10) (As := [.long ((x1 : Int32).toInt64), .long 0, .long ((((σ.1 0 1) : Int32).toInt64) - 1)]) (st := []) dX9_noSpeaker_10 ⟨cd_X9_in, sm_X9_in, ini_X9⟩ ml_X9_102 (A9_in ((x1 : Int32).toInt64) 0 ((((σ.1 0 1) : Int32).toInt64) - 1) σ _ h1) ⟨rfl, pd_X9_in⟩ ⟨Nat.le_of_ble_eq_true rfl, Nat.le_of_ble_eq_true rfl⟩ ⟨rfl, rfl⟩ rfl (Nat.le_of_ble_eq_true rfl) ?_
  refine AR.if_ne (pc := 13) (tgt := 20) dX9_noSpeaker_13 (by decide) (fun c2 => ?_) (fun c2 => ?_)
  · replace h := ite_f c2 h
    refine AR.iconst (pc := 20) (v := 0) dX9_noSpeaker_20 (by decide) ?_
    exact AR.zret (pc := 21) rfl (Or.inl rfl) dX9_noSpeaker_21 (hrI (Option.some.inj h))
  · replace h := ite_t c2 h
    refine AR.iconst (pc := 16) (v := 1) dX9_noSpeaker_16 (by decide) ?_
    refine AR.goto (pc := 17) (tgt := 21) dX9_noSpeaker_17 (by decide) ?_
    exact AR.zret (pc := 21) rfl (Or.inr rfl) dX9_noSpeaker_21 (hrI (Option.some.inj h))
noncomputable def f9_noWord_26 (σ : HS) : Option (Int32 × HS) :=
  some (1, σ)
noncomputable def f9_noWord (x1 : Int32) (x2 : Int32) (σ : HS) : Option (Int32 × HS) :=
  bd (f9_noSpeaker x1 σ) fun r1 =>
  if (r1.1 : Int32) = 0 then
    if (x1 : Int32) < 0 ∨ 5 ≤ (x1 : Int32).toNatClampNeg then none else
    bd (f9_in ((x2 : Int32).toInt64) 0 (((((r1.2).1 2 (x1 : Int32).toNatClampNeg) : Int32).toInt64) - 1) (r1.2)) fun r4 =>
    if (r4.1 : Int32) = 0 then
      f9_noWord_26 (r4.2)
    else
      some (0, r4.2)
  else
    f9_noWord_26 (r1.2)
set_option maxHeartbeats 4000000 in
set_option maxRecDepth 100000 in
theorem A9_noWord_26 {l : Launch} (σ : HS) (r : Int32 × HS) (h : f9_noWord_26 σ = some r) : AR l RX9 cX9_noWord 3 (some .boolean) (wsU yX9_noWord cX9_noWord 3 (some .boolean)) rm9_noWord SM 26 [] [] σ (some (.int r.1), r.2) := by
  unfold f9_noWord_26 at h
  refine AR.iconst (pc := 26) (v := 1) dX9_noWord_26 (by decide) ?_
  refine AR.goto (pc := 27) (tgt := 31) dX9_noWord_27 (by decide) ?_
  exact AR.zret (pc := 31) rfl (Or.inr rfl) dX9_noWord_31 (hrI (Option.some.inj h))
set_option maxHeartbeats 4000000 in
set_option maxRecDepth 100000 in
theorem A9_noWord {l : Launch} (x1 : Int32) (x2 : Int32) (σ : HS) (r : Int32 × HS) (h : f9_noWord x1 x2 σ = some r) : MA l yX9_noWord (wsU yX9_noWord cX9_noWord 3 (some .boolean)) rm9_noWord SM [.ref 0, .int x1, .int x2] σ (some (.int r.1), r.2) := by
  refine MA.of (L := [(0, .ref 0), (1, .int x1), (2, .int x2)]) pn_X9_noWord rfl (fun _ => Nat.le_of_ble_eq_true rfl) (fun _ => rfl) ?_
  unfold f9_noWord at h
  refine AR.aload_n (pc := 0) (j := 0) dX9_noWord_0 rfl rfl ?_
  refine AR.iload_n (pc := 1) (j := 1) dX9_noWord_1 rfl rfl ?_
  obtain ⟨r1, h1, h⟩ := bd_some h
  refine AR.callV (pc := 2) (As := [.int x1]) (st := []) (ci := 9) dX9_noWord_2 ⟨cd_X9_noSpeaker, im_X9_noSpeaker, se_X9_noSpeaker, ini_X9⟩ ml_X9_116 (A9_noSpeaker x1 σ _ h1) ⟨rfl, pd_X9_noSpeaker⟩ ⟨Nat.le_of_ble_eq_true rfl, Nat.le_of_ble_eq_true rfl⟩ ⟨rfl, rfl⟩ rfl rfl rfl (Nat.le_of_ble_eq_true rfl) ?_
  refine AR.if_ne (pc := 5) (tgt := 26) dX9_noWord_5 (by decide) (fun c2 => ?_) (fun c2 => ?_)
  · replace h := ite_f c2 h
    exact AR.pick [] rfl (A9_noWord_26 (r1.2) r h)
  · replace h := ite_t c2 h
    refine AR.iload_n (pc := 8) (j := 2) dX9_noWord_8 rfl rfl ?_
    refine AR.i2l (pc := 9) dX9_noWord_9 ?_
    refine AR.lconst (pc := 10) (v := 0) dX9_noWord_10 (by decide) ?_
    refine AR.aload_n (pc := 11) (j := 0) dX9_noWord_11 rfl rfl ?_
    refine AR.getf (pc := 12) (ci := 9) (j := 6) (d := 2 + 2) (v := .ref 2) (T := TX9) dX9_noWord_12 rfl rfl rfl (by decide) (fun w hw => wsU_in (uw_X9 w hw)) (wsU_in fl_X9_13) rfl ?_
    refine AR.iload_n (pc := 15) (j := 1) dX9_noWord_15 rfl rfl ?_
    obtain ⟨c3, h⟩ := gn_some h
    refine AR.iaload (pc := 16) dX9_noWord_16 rfl c3 ?_
    refine AR.i2l (pc := 17) dX9_noWord_17 ?_
    refine AR.lconst (pc := 18) (v := 1) dX9_noWord_18 (by decide) ?_
    refine AR.lsub (pc := 19) dX9_noWord_19 ?_
    obtain ⟨r4, h4, h⟩ := bd_some h
    refine AR.callS (pc := 20) (As := [.long ((x2 : Int32).toInt64), .long 0, .long (((((r1.2).1 2 (x1 : Int32).toNatClampNeg) : Int32).toInt64) - 1)]) (st := []) dX9_noWord_20 ⟨cd_X9_in, sm_X9_in, ini_X9⟩ ml_X9_102 (A9_in ((x2 : Int32).toInt64) 0 (((((r1.2).1 2 (x1 : Int32).toNatClampNeg) : Int32).toInt64) - 1) (r1.2) _ h4) ⟨rfl, pd_X9_in⟩ ⟨Nat.le_of_ble_eq_true rfl, Nat.le_of_ble_eq_true rfl⟩ ⟨rfl, rfl⟩ rfl (Nat.le_of_ble_eq_true rfl) ?_
    refine AR.if_ne (pc := 23) (tgt := 30) dX9_noWord_23 (by decide) (fun c5 => ?_) (fun c5 => ?_)
    · replace h := ite_f c5 h
      refine AR.iconst (pc := 30) (v := 0) dX9_noWord_30 (by decide) ?_
      exact AR.zret (pc := 31) rfl (Or.inl rfl) dX9_noWord_31 (hrI (Option.some.inj h))
    · replace h := ite_t c5 h
      exact AR.pick [] rfl (A9_noWord_26 (r4.2) r h)
noncomputable def f9_codeAt (x1 : Int32) (x2 : Int32) (σ : HS) : Option (Int32 × HS) :=
  if (x2 : Int32) ≤ (σ.1 0 11) then
    some ((-9), σ)
  else
    if ((x1 + (σ.1 0 11)) : Int32) < 0 ∨ 400 ≤ ((x1 + (σ.1 0 11)) : Int32).toNatClampNeg then none else
    some ((σ.1 23 ((x1 + (σ.1 0 11)) : Int32).toNatClampNeg), σ)
set_option maxHeartbeats 4000000 in
set_option maxRecDepth 100000 in
theorem A9_codeAt {l : Launch} (x1 : Int32) (x2 : Int32) (σ : HS) (r : Int32 × HS) (h : f9_codeAt x1 x2 σ = some r) : MA l yX9_codeAt (wsU yX9_codeAt cX9_codeAt 3 (some .int)) rm9_codeAt SM [.ref 0, .int x1, .int x2] σ (some (.int r.1), r.2) := by
  refine MA.of (L := [(0, .ref 0), (1, .int x1), (2, .int x2)]) pn_X9_codeAt rfl (fun _ => Nat.le_of_ble_eq_true rfl) (fun _ => rfl) ?_
  unfold f9_codeAt at h
  refine AR.aload_n (pc := 0) (j := 0) dX9_codeAt_0 rfl rfl ?_
  refine AR.getf (pc := 1) (ci := 9) (j := 11) (d := 0) (v := .int (σ.1 0 11)) (T := TX9) dX9_codeAt_1 rfl rfl rfl (by decide) (fun w hw => wsU_in (uw_X9 w hw)) (wsU_in fl_X9_119) rfl ?_
  refine AR.iload_n (pc := 4) (j := 2) dX9_codeAt_4 rfl rfl ?_
  refine AR.icmp_ge (pc := 5) (tgt := 22) dX9_codeAt_5 (by decide) (fun c1 => ?_) (fun c1 => ?_)
  · replace h := ite_t c1 h
    refine AR.bipush (pc := 22) (v := (-9)) dX9_codeAt_22 (by decide) ?_
    exact AR.iret (pc := 24) rfl dX9_codeAt_24 (hrI (Option.some.inj h))
  · replace h := ite_f c1 h
    refine AR.aload_n (pc := 8) (j := 0) dX9_codeAt_8 rfl rfl ?_
    refine AR.getf (pc := 9) (ci := 9) (j := 34) (d := 23 + 2) (v := .ref 23) (T := TX9) dX9_codeAt_9 rfl rfl rfl (by decide) (fun w hw => wsU_in (uw_X9 w hw)) (wsU_in fl_X9_76) rfl ?_
    refine AR.iload_n (pc := 12) (j := 1) dX9_codeAt_12 rfl rfl ?_
    refine AR.aload_n (pc := 13) (j := 0) dX9_codeAt_13 rfl rfl ?_
    refine AR.getf (pc := 14) (ci := 9) (j := 11) (d := 0) (v := .int (σ.1 0 11)) (T := TX9) dX9_codeAt_14 rfl rfl rfl (by decide) (fun w hw => wsU_in (uw_X9 w hw)) (wsU_in fl_X9_119) rfl ?_
    refine AR.iadd (pc := 17) dX9_codeAt_17 ?_
    obtain ⟨c2, h⟩ := gn_some h
    refine AR.iaload (pc := 18) dX9_codeAt_18 rfl c2 ?_
    refine AR.goto (pc := 19) (tgt := 24) dX9_codeAt_19 (by decide) ?_
    exact AR.iret (pc := 24) rfl dX9_codeAt_24 (hrI (Option.some.inj h))
noncomputable def f9_takes_45 (x4 : Int32) (z0 : Int32) (z1 : Int32) (σ : HS) : Option (Int32 × HS) :=
  if (x4 : Int32) = 0 ∨ (x4 : Int32) = 1 then some (x4, (uI σ 0 11 (z1 + z0))) else none
noncomputable def f9_takes_28 (z0 : Int32) (σ : HS) : Option (Int32 × HS) :=
  if (z0 : Int32) = 0 then
    f9_takes_45 z0 0 (σ.1 0 11) σ
  else
    f9_takes_45 z0 1 (σ.1 0 11) σ
noncomputable def f9_takes_27 (σ : HS) : Option (Int32 × HS) :=
  f9_takes_28 0 σ
noncomputable def f9_takes (x1 : Int32) (x2 : Int32) (x3 : Int32) (σ : HS) : Option (Int32 × HS) :=
  if (x3 : Int32) ≤ (σ.1 0 11) then
    f9_takes_27 σ
  else
    if ((x2 + (σ.1 0 11)) : Int32) < 0 ∨ 400 ≤ ((x2 + (σ.1 0 11)) : Int32).toNatClampNeg then none else
    if ((σ.1 23 ((x2 + (σ.1 0 11)) : Int32).toNatClampNeg) : Int32) = x1 then
      f9_takes_28 1 σ
    else
      f9_takes_27 σ
set_option maxHeartbeats 4000000 in
set_option maxRecDepth 100000 in
theorem A9_takes_45 {l : Launch} (x4 : Int32) (z0 : Int32) (z1 : Int32) (σ : HS) (r : Int32 × HS) (h : f9_takes_45 x4 z0 z1 σ = some r) : AR l RX9 cX9_takes 5 (some .boolean) (wsU yX9_takes cX9_takes 5 (some .boolean)) rm9_takes SM 45 [(4, .int x4)] [.int z0, .int z1, .ref 0] σ (some (.int r.1), r.2) := by
  unfold f9_takes_45 at h
  refine AR.iadd (pc := 45) dX9_takes_45 ?_
  refine AR.putI (pc := 46) (ci := 9) (j := 11) (T := TX9) (ty0 := tyX9) (ty := .int) dX9_takes_46 rfl rfl rfl (by decide) (fun w hw => wsU_in (uw_X9 w hw)) tyX9_ok nmX9 (wsU_in fl_X9_119) rfl (by decide +kernel) rfl rfl ?_
  refine AR.iload (pc := 49) (j := 0) dX9_takes_49 rfl ?_
  obtain ⟨c1, h⟩ := gp_some h
  exact AR.zret (pc := 51) rfl c1 dX9_takes_51 (hrI (Option.some.inj h))
set_option maxHeartbeats 4000000 in
set_option maxRecDepth 100000 in
theorem A9_takes_28 {l : Launch} (z0 : Int32) (σ : HS) (r : Int32 × HS) (h : f9_takes_28 z0 σ = some r) : AR l RX9 cX9_takes 5 (some .boolean) (wsU yX9_takes cX9_takes 5 (some .boolean)) rm9_takes SM 28 [(0, .ref 0)] [.int z0] σ (some (.int r.1), r.2) := by
  unfold f9_takes_28 at h
  refine AR.istore (pc := 28) (L2 := [(4, .int z0), (0, .ref 0)]) dX9_takes_28 (by decide) rfl ?_
  refine AR.aload_n (pc := 30) (j := 1) dX9_takes_30 rfl rfl ?_
  refine AR.dup (pc := 31) dX9_takes_31 rfl ?_
  refine AR.getf (pc := 32) (ci := 9) (j := 11) (d := 0) (v := .int (σ.1 0 11)) (T := TX9) dX9_takes_32 rfl rfl rfl (by decide) (fun w hw => wsU_in (uw_X9 w hw)) (wsU_in fl_X9_119) rfl ?_
  refine AR.iload (pc := 35) (j := 0) dX9_takes_35 rfl ?_
  refine AR.if_eq (pc := 37) (tgt := 44) dX9_takes_37 (by decide) (fun c1 => ?_) (fun c1 => ?_)
  · replace h := ite_t c1 h
    refine AR.iconst (pc := 44) (v := 0) dX9_takes_44 (by decide) ?_
    exact AR.pick [0] rfl (A9_takes_45 z0 0 (σ.1 0 11) σ r h)
  · replace h := ite_f c1 h
    refine AR.iconst (pc := 40) (v := 1) dX9_takes_40 (by decide) ?_
    refine AR.goto (pc := 41) (tgt := 45) dX9_takes_41 (by decide) ?_
    exact AR.pick [0] rfl (A9_takes_45 z0 1 (σ.1 0 11) σ r h)
set_option maxHeartbeats 4000000 in
set_option maxRecDepth 100000 in
theorem A9_takes_27 {l : Launch} (σ : HS) (r : Int32 × HS) (h : f9_takes_27 σ = some r) : AR l RX9 cX9_takes 5 (some .boolean) (wsU yX9_takes cX9_takes 5 (some .boolean)) rm9_takes SM 27 [(0, .ref 0)] [] σ (some (.int r.1), r.2) := by
  unfold f9_takes_27 at h
  refine AR.iconst (pc := 27) (v := 0) dX9_takes_27 (by decide) ?_
  exact AR.pick [0] rfl (A9_takes_28 0 σ r h)
set_option maxHeartbeats 4000000 in
set_option maxRecDepth 100000 in
theorem A9_takes {l : Launch} (x1 : Int32) (x2 : Int32) (x3 : Int32) (σ : HS) (r : Int32 × HS) (h : f9_takes x1 x2 x3 σ = some r) : MA l yX9_takes (wsU yX9_takes cX9_takes 5 (some .boolean)) rm9_takes SM [.ref 0, .int x1, .int x2, .int x3] σ (some (.int r.1), r.2) := by
  refine MA.of (L := [(0, .ref 0), (1, .int x1), (2, .int x2), (3, .int x3)]) pn_X9_takes rfl (fun _ => Nat.le_of_ble_eq_true rfl) (fun _ => rfl) ?_
  unfold f9_takes at h
  refine AR.aload_n (pc := 0) (j := 0) dX9_takes_0 rfl rfl ?_
  refine AR.getf (pc := 1) (ci := 9) (j := 11) (d := 0) (v := .int (σ.1 0 11)) (T := TX9) dX9_takes_1 rfl rfl rfl (by decide) (fun w hw => wsU_in (uw_X9 w hw)) (wsU_in fl_X9_119) rfl ?_
  refine AR.iload_n (pc := 4) (j := 3) dX9_takes_4 rfl rfl ?_
  refine AR.icmp_ge (pc := 5) (tgt := 27) dX9_takes_5 (by decide) (fun c1 => ?_) (fun c1 => ?_)
  · replace h := ite_t c1 h
    exact AR.pick [0] rfl (A9_takes_27 σ r h)
  · replace h := ite_f c1 h
    refine AR.aload_n (pc := 8) (j := 0) dX9_takes_8 rfl rfl ?_
    refine AR.getf (pc := 9) (ci := 9) (j := 34) (d := 23 + 2) (v := .ref 23) (T := TX9) dX9_takes_9 rfl rfl rfl (by decide) (fun w hw => wsU_in (uw_X9 w hw)) (wsU_in fl_X9_76) rfl ?_
    refine AR.iload_n (pc := 12) (j := 2) dX9_takes_12 rfl rfl ?_
    refine AR.aload_n (pc := 13) (j := 0) dX9_takes_13 rfl rfl ?_
    refine AR.getf (pc := 14) (ci := 9) (j := 11) (d := 0) (v := .int (σ.1 0 11)) (T := TX9) dX9_takes_14 rfl rfl rfl (by decide) (fun w hw => wsU_in (uw_X9 w hw)) (wsU_in fl_X9_119) rfl ?_
    refine AR.iadd (pc := 17) dX9_takes_17 ?_
    obtain ⟨c2, h⟩ := gn_some h
    refine AR.iaload (pc := 18) dX9_takes_18 rfl c2 ?_
    refine AR.iload_n (pc := 19) (j := 1) dX9_takes_19 rfl rfl ?_
    refine AR.icmp_ne (pc := 20) (tgt := 27) dX9_takes_20 (by decide) (fun c3 => ?_) (fun c3 => ?_)
    · replace h := ite_f c3 h
      exact AR.pick [0] rfl (A9_takes_27 σ r h)
    · replace h := ite_t c3 h
      refine AR.iconst (pc := 23) (v := 1) dX9_takes_23 (by decide) ?_
      refine AR.goto (pc := 24) (tgt := 28) dX9_takes_24 (by decide) ?_
      exact AR.pick [0] rfl (A9_takes_28 1 σ r h)
noncomputable def f9_figureAt_21 (z0 : Int32) (σ : HS) : Option (Int32 × HS) :=
  bd (f9_in ((z0 : Int32).toInt64) 0 9 σ) fun r1 =>
  if (r1.1 : Int32) = 0 then
    some ((-9), r1.2)
  else
    some (z0, r1.2)
noncomputable def f9_figureAt (x1 : Int32) (x2 : Int32) (x3 : Int32) (σ : HS) : Option (Int32 × HS) :=
  if (x2 : Int32) ≤ x3 then
    f9_figureAt_21 (-9) σ
  else
    if ((x1 + x3) : Int32) < 0 ∨ 400 ≤ ((x1 + x3) : Int32).toNatClampNeg then none else
    f9_figureAt_21 ((σ.1 23 ((x1 + x3) : Int32).toNatClampNeg) - 48) σ
set_option maxHeartbeats 4000000 in
set_option maxRecDepth 100000 in
theorem A9_figureAt_21 {l : Launch} (z0 : Int32) (σ : HS) (r : Int32 × HS) (h : f9_figureAt_21 z0 σ = some r) : AR l RX9 cX9_figureAt 5 (some .int) (wsU yX9_figureAt cX9_figureAt 5 (some .int)) rm9_figureAt SM 21 [] [.int z0] σ (some (.int r.1), r.2) := by
  unfold f9_figureAt_21 at h
  refine AR.istore (pc := 21) (L2 := [(4, .int z0)]) dX9_figureAt_21 (by decide) rfl ?_
  refine AR.iload (pc := 23) (j := 0) dX9_figureAt_23 rfl ?_
  refine AR.i2l (pc := 25) dX9_figureAt_25 ?_
  refine AR.lconst (pc := 26) (v := 0) dX9_figureAt_26 (by decide) ?_
  refine AR.ldc2 (pc := 27) (v := 9) dX9_figureAt_27 (wsU_in kl_X9_122) ?_
  obtain ⟨r1, h1, h⟩ := bd_some h
  refine AR.callS (pc := 30) (As := [.long ((z0 : Int32).toInt64), .long 0, .long 9]) (st := []) dX9_figureAt_30 ⟨cd_X9_in, sm_X9_in, ini_X9⟩ ml_X9_102 (A9_in ((z0 : Int32).toInt64) 0 9 σ _ h1) ⟨rfl, pd_X9_in⟩ ⟨Nat.le_of_ble_eq_true rfl, Nat.le_of_ble_eq_true rfl⟩ ⟨rfl, rfl⟩ rfl (Nat.le_of_ble_eq_true rfl) ?_
  refine AR.if_eq (pc := 33) (tgt := 41) dX9_figureAt_33 (by decide) (fun c2 => ?_) (fun c2 => ?_)
  · replace h := ite_t c2 h
    refine AR.bipush (pc := 41) (v := (-9)) dX9_figureAt_41 (by decide) ?_
    exact AR.iret (pc := 43) rfl dX9_figureAt_43 (hrI (Option.some.inj h))
  · replace h := ite_f c2 h
    refine AR.iload (pc := 36) (j := 0) dX9_figureAt_36 rfl ?_
    refine AR.goto (pc := 38) (tgt := 43) dX9_figureAt_38 (by decide) ?_
    exact AR.iret (pc := 43) rfl dX9_figureAt_43 (hrI (Option.some.inj h))
set_option maxHeartbeats 4000000 in
set_option maxRecDepth 100000 in
theorem A9_figureAt {l : Launch} (x1 : Int32) (x2 : Int32) (x3 : Int32) (σ : HS) (r : Int32 × HS) (h : f9_figureAt x1 x2 x3 σ = some r) : MA l yX9_figureAt (wsU yX9_figureAt cX9_figureAt 5 (some .int)) rm9_figureAt SM [.ref 0, .int x1, .int x2, .int x3] σ (some (.int r.1), r.2) := by
  refine MA.of (L := [(0, .ref 0), (1, .int x1), (2, .int x2), (3, .int x3)]) pn_X9_figureAt rfl (fun _ => Nat.le_of_ble_eq_true rfl) (fun _ => rfl) ?_
  unfold f9_figureAt at h
  refine AR.iload_n (pc := 0) (j := 3) dX9_figureAt_0 rfl rfl ?_
  refine AR.iload_n (pc := 1) (j := 2) dX9_figureAt_1 rfl rfl ?_
  refine AR.icmp_ge (pc := 2) (tgt := 19) dX9_figureAt_2 (by decide) (fun c1 => ?_) (fun c1 => ?_)
  · replace h := ite_t c1 h
    refine AR.bipush (pc := 19) (v := (-9)) dX9_figureAt_19 (by decide) ?_
    exact AR.pick [] rfl (A9_figureAt_21 (-9) σ r h)
  · replace h := ite_f c1 h
    refine AR.aload_n (pc := 5) (j := 0) dX9_figureAt_5 rfl rfl ?_
    refine AR.getf (pc := 6) (ci := 9) (j := 34) (d := 23 + 2) (v := .ref 23) (T := TX9) dX9_figureAt_6 rfl rfl rfl (by decide) (fun w hw => wsU_in (uw_X9 w hw)) (wsU_in fl_X9_76) rfl ?_
    refine AR.iload_n (pc := 9) (j := 1) dX9_figureAt_9 rfl rfl ?_
    refine AR.iload_n (pc := 10) (j := 3) dX9_figureAt_10 rfl rfl ?_
    refine AR.iadd (pc := 11) dX9_figureAt_11 ?_
    obtain ⟨c2, h⟩ := gn_some h
    refine AR.iaload (pc := 12) dX9_figureAt_12 rfl c2 ?_
    refine AR.bipush (pc := 13) (v := 48) dX9_figureAt_13 (by decide) ?_
    refine AR.isub (pc := 15) dX9_figureAt_15 ?_
    refine AR.goto (pc := 16) (tgt := 21) dX9_figureAt_16 (by decide) ?_
    exact AR.pick [] rfl (A9_figureAt_21 ((σ.1 23 ((x1 + x3) : Int32).toNatClampNeg) - 48) σ r h)
noncomputable def f9_figure_25 (x3 : Int32) (z0 : Int32) (z1 : Int32) (σ : HS) : Option (Int32 × HS) :=
  some (x3, (uI σ 0 11 (z1 + z0)))
noncomputable def f9_figure (x1 : Int32) (x2 : Int32) (σ : HS) : Option (Int32 × HS) :=
  bd (f9_figureAt x1 x2 (σ.1 0 11) σ) fun r1 =>
  if 0 ≤ (r1.1 : Int32) then
    f9_figure_25 (r1.1) 1 ((r1.2).1 0 11) (r1.2)
  else
    f9_figure_25 (r1.1) 0 ((r1.2).1 0 11) (r1.2)
set_option maxHeartbeats 4000000 in
set_option maxRecDepth 100000 in
theorem A9_figure_25 {l : Launch} (x3 : Int32) (z0 : Int32) (z1 : Int32) (σ : HS) (r : Int32 × HS) (h : f9_figure_25 x3 z0 z1 σ = some r) : AR l RX9 cX9_figure 4 (some .int) (wsU yX9_figure cX9_figure 4 (some .int)) rm9_figure SM 25 [(3, .int x3)] [.int z0, .int z1, .ref 0] σ (some (.int r.1), r.2) := by
  unfold f9_figure_25 at h
  refine AR.iadd (pc := 25) dX9_figure_25 ?_
  refine AR.putI (pc := 26) (ci := 9) (j := 11) (T := TX9) (ty0 := tyX9) (ty := .int) dX9_figure_26 rfl rfl rfl (by decide) (fun w hw => wsU_in (uw_X9 w hw)) tyX9_ok nmX9 (wsU_in fl_X9_119) rfl (by decide +kernel) rfl rfl ?_
  refine AR.iload_n (pc := 29) (j := 0) dX9_figure_29 rfl rfl ?_
  exact AR.iret (pc := 30) rfl dX9_figure_30 (hrI (Option.some.inj h))
set_option maxHeartbeats 4000000 in
set_option maxRecDepth 100000 in
theorem A9_figure {l : Launch} (x1 : Int32) (x2 : Int32) (σ : HS) (r : Int32 × HS) (h : f9_figure x1 x2 σ = some r) : MA l yX9_figure (wsU yX9_figure cX9_figure 4 (some .int)) rm9_figure SM [.ref 0, .int x1, .int x2] σ (some (.int r.1), r.2) := by
  refine MA.of (L := [(0, .ref 0), (1, .int x1), (2, .int x2)]) pn_X9_figure rfl (fun _ => Nat.le_of_ble_eq_true rfl) (fun _ => rfl) ?_
  unfold f9_figure at h
  refine AR.aload_n (pc := 0) (j := 0) dX9_figure_0 rfl rfl ?_
  refine AR.iload_n (pc := 1) (j := 1) dX9_figure_1 rfl rfl ?_
  refine AR.iload_n (pc := 2) (j := 2) dX9_figure_2 rfl rfl ?_
  refine AR.aload_n (pc := 3) (j := 0) dX9_figure_3 rfl rfl ?_
  refine AR.getf (pc := 4) (ci := 9) (j := 11) (d := 0) (v := .int (σ.1 0 11)) (T := TX9) dX9_figure_4 rfl rfl rfl (by decide) (fun w hw => wsU_in (uw_X9 w hw)) (wsU_in fl_X9_119) rfl ?_
  obtain ⟨r1, h1, h⟩ := bd_some h
  refine AR.callV (pc := 7) (As := [.int x1, .int x2, .int (σ.1 0 11)]) (st := []) (ci := 9) dX9_figure_7 ⟨cd_X9_figureAt, im_X9_figureAt, se_X9_figureAt, ini_X9⟩ ml_X9_124 (A9_figureAt x1 x2 (σ.1 0 11) σ _ h1) ⟨rfl, pd_X9_figureAt⟩ ⟨Nat.le_of_ble_eq_true rfl, Nat.le_of_ble_eq_true rfl⟩ ⟨rfl, rfl⟩ rfl rfl rfl (Nat.le_of_ble_eq_true rfl) ?_
  refine AR.istore_n (pc := 10) (L2 := [(3, .int (r1.1)), (0, .ref 0), (1, .int x1), (2, .int x2)]) dX9_figure_10 rfl (by decide) rfl ?_
  refine AR.aload_n (pc := 11) (j := 1) dX9_figure_11 rfl rfl ?_
  refine AR.dup (pc := 12) dX9_figure_12 rfl ?_
  refine AR.getf (pc := 13) (ci := 9) (j := 11) (d := 0) (v := .int ((r1.2).1 0 11)) (T := TX9) dX9_figure_13 rfl rfl rfl (by decide) (fun w hw => wsU_in (uw_X9 w hw)) (wsU_in fl_X9_119) rfl ?_
  refine AR.iload_n (pc := 16) (j := 0) dX9_figure_16 rfl rfl ?_
  refine AR.if_ge (pc := 17) (tgt := 24) dX9_figure_17 (by decide) (fun c2 => ?_) (fun c2 => ?_)
  · replace h := ite_t c2 h
    refine AR.iconst (pc := 24) (v := 1) dX9_figure_24 (by decide) ?_
    exact AR.pick [0] rfl (A9_figure_25 (r1.1) 1 ((r1.2).1 0 11) (r1.2) r h)
  · replace h := ite_f c2 h
    refine AR.iconst (pc := 20) (v := 0) dX9_figure_20 (by decide) ?_
    refine AR.goto (pc := 21) (tgt := 25) dX9_figure_21 (by decide) ?_
    exact AR.pick [0] rfl (A9_figure_25 (r1.1) 0 ((r1.2).1 0 11) (r1.2) r h)
noncomputable def f9_two_95 (x4 : Int32) (x5 : Int32) (x6 : Int32) (z0 : Int32) (z1 : Int32) (σ : HS) : Option (Int32 × HS) :=
  if (x6 : Int32) = 0 then
    some ((-9), (uI σ 0 11 (z1 + z0)))
  else
    some (((10 * x4) + x5), (uI σ 0 11 (z1 + z0)))
noncomputable def f9_two (x1 : Int32) (x2 : Int32) (x3 : Int32) (σ : HS) : Option (Int32 × HS) :=
  bd (f9_figureAt x1 x2 (σ.1 0 11) σ) fun r1 =>
  if (r1.1 : Int32) < 0 then
    some ((-9), r1.2)
  else
    if ((10 * (r1.1)) : Int32) ≤ x3 then
      bd (f9_figureAt x1 x2 (((r1.2).1 0 11) + 1) (r1.2)) fun r4 =>
      if 0 ≤ (r4.1 : Int32) then
        bd (f9_in ((10 * ((r1.1 : Int32).toInt64)) + ((r4.1 : Int32).toInt64)) 1 ((x3 : Int32).toInt64) (r4.2)) fun r6 =>
        if (r6.1 : Int32) = 0 then
          f9_two_95 (r1.1) (r4.1) (r6.1) 0 ((r6.2).1 0 11) (r6.2)
        else
          f9_two_95 (r1.1) (r4.1) (r6.1) 2 ((r6.2).1 0 11) (r6.2)
      else
        some ((-9), (uI (r4.2) 0 11 (((r4.2).1 0 11) + 1)))
    else
      some ((-9), r1.2)
set_option maxHeartbeats 4000000 in
set_option maxRecDepth 100000 in
theorem A9_two_95 {l : Launch} (x4 : Int32) (x5 : Int32) (x6 : Int32) (z0 : Int32) (z1 : Int32) (σ : HS) (r : Int32 × HS) (h : f9_two_95 x4 x5 x6 z0 z1 σ = some r) : AR l RX9 cX9_two 7 (some .int) (wsU yX9_two cX9_two 7 (some .int)) rm9_two SM 95 [(4, .int x4), (5, .int x5), (6, .int x6)] [.int z0, .int z1, .ref 0] σ (some (.int r.1), r.2) := by
  unfold f9_two_95 at h
  refine AR.iadd (pc := 95) dX9_two_95 ?_
  refine AR.putI (pc := 96) (ci := 9) (j := 11) (T := TX9) (ty0 := tyX9) (ty := .int) dX9_two_96 rfl rfl rfl (by decide) (fun w hw => wsU_in (uw_X9 w hw)) tyX9_ok nmX9 (wsU_in fl_X9_119) rfl (by decide +kernel) rfl rfl ?_
  refine AR.iload (pc := 99) (j := 2) dX9_two_99 rfl ?_
  refine AR.if_eq (pc := 101) (tgt := 115) dX9_two_101 (by decide) (fun c1 => ?_) (fun c1 => ?_)
  · replace h := ite_t c1 h
    refine AR.bipush (pc := 115) (v := (-9)) dX9_two_115 (by decide) ?_
    exact AR.iret (pc := 117) rfl dX9_two_117 (hrI (Option.some.inj h))
  · replace h := ite_f c1 h
    refine AR.bipush (pc := 104) (v := 10) dX9_two_104 (by decide) ?_
    refine AR.iload (pc := 106) (j := 0) dX9_two_106 rfl ?_
    refine AR.imul (pc := 108) dX9_two_108 ?_
    refine AR.iload (pc := 109) (j := 1) dX9_two_109 rfl ?_
    refine AR.iadd (pc := 111) dX9_two_111 ?_
    refine AR.goto (pc := 112) (tgt := 117) dX9_two_112 (by decide) ?_
    exact AR.iret (pc := 117) rfl dX9_two_117 (hrI (Option.some.inj h))
set_option maxHeartbeats 4000000 in
set_option maxRecDepth 100000 in
theorem A9_two {l : Launch} (x1 : Int32) (x2 : Int32) (x3 : Int32) (σ : HS) (r : Int32 × HS) (h : f9_two x1 x2 x3 σ = some r) : MA l yX9_two (wsU yX9_two cX9_two 7 (some .int)) rm9_two SM [.ref 0, .int x1, .int x2, .int x3] σ (some (.int r.1), r.2) := by
  refine MA.of (L := [(0, .ref 0), (1, .int x1), (2, .int x2), (3, .int x3)]) pn_X9_two rfl (fun _ => Nat.le_of_ble_eq_true rfl) (fun _ => rfl) ?_
  unfold f9_two at h
  refine AR.aload_n (pc := 0) (j := 0) dX9_two_0 rfl rfl ?_
  refine AR.iload_n (pc := 1) (j := 1) dX9_two_1 rfl rfl ?_
  refine AR.iload_n (pc := 2) (j := 2) dX9_two_2 rfl rfl ?_
  refine AR.aload_n (pc := 3) (j := 0) dX9_two_3 rfl rfl ?_
  refine AR.getf (pc := 4) (ci := 9) (j := 11) (d := 0) (v := .int (σ.1 0 11)) (T := TX9) dX9_two_4 rfl rfl rfl (by decide) (fun w hw => wsU_in (uw_X9 w hw)) (wsU_in fl_X9_119) rfl ?_
  obtain ⟨r1, h1, h⟩ := bd_some h
  refine AR.callV (pc := 7) (As := [.int x1, .int x2, .int (σ.1 0 11)]) (st := []) (ci := 9) dX9_two_7 ⟨cd_X9_figureAt, im_X9_figureAt, se_X9_figureAt, ini_X9⟩ ml_X9_124 (A9_figureAt x1 x2 (σ.1 0 11) σ _ h1) ⟨rfl, pd_X9_figureAt⟩ ⟨Nat.le_of_ble_eq_true rfl, Nat.le_of_ble_eq_true rfl⟩ ⟨rfl, rfl⟩ rfl rfl rfl (Nat.le_of_ble_eq_true rfl) ?_
  refine AR.istore (pc := 10) (L2 := [(4, .int (r1.1)), (0, .ref 0), (1, .int x1), (2, .int x2), (3, .int x3)]) dX9_two_10 (by decide) rfl ?_
  refine AR.iload (pc := 12) (j := 0) dX9_two_12 rfl ?_
  refine AR.if_lt (pc := 14) (tgt := 26) dX9_two_14 (by decide) (fun c2 => ?_) (fun c2 => ?_)
  · replace h := ite_t c2 h
    refine AR.bipush (pc := 26) (v := (-9)) dX9_two_26 (by decide) ?_
    exact AR.iret (pc := 28) rfl dX9_two_28 (hrI (Option.some.inj h))
  · replace h := ite_f c2 h
    refine AR.bipush (pc := 17) (v := 10) dX9_two_17 (by decide) ?_
    refine AR.iload (pc := 19) (j := 0) dX9_two_19 rfl ?_
    refine AR.imul (pc := 21) dX9_two_21 ?_
    refine AR.iload_n (pc := 22) (j := 4) dX9_two_22 rfl rfl ?_
    refine AR.icmp_le (pc := 23) (tgt := 29) dX9_two_23 (by decide) (fun c3 => ?_) (fun c3 => ?_)
    · replace h := ite_t c3 h
      refine AR.aload_n (pc := 29) (j := 1) dX9_two_29 rfl rfl ?_
      refine AR.iload_n (pc := 30) (j := 2) dX9_two_30 rfl rfl ?_
      refine AR.iload_n (pc := 31) (j := 3) dX9_two_31 rfl rfl ?_
      refine AR.aload_n (pc := 32) (j := 1) dX9_two_32 rfl rfl ?_
      refine AR.getf (pc := 33) (ci := 9) (j := 11) (d := 0) (v := .int ((r1.2).1 0 11)) (T := TX9) dX9_two_33 rfl rfl rfl (by decide) (fun w hw => wsU_in (uw_X9 w hw)) (wsU_in fl_X9_119) rfl ?_
      refine AR.iconst (pc := 36) (v := 1) dX9_two_36 (by decide) ?_
      refine AR.iadd (pc := 37) dX9_two_37 ?_
      obtain ⟨r4, h4, h⟩ := bd_some h
      refine AR.callV (pc := 38) (As := [.int x1, .int x2, .int (((r1.2).1 0 11) + 1)]) (st := []) (ci := 9) dX9_two_38 ⟨cd_X9_figureAt, im_X9_figureAt, se_X9_figureAt, ini_X9⟩ ml_X9_124 (A9_figureAt x1 x2 (((r1.2).1 0 11) + 1) (r1.2) _ h4) ⟨rfl, pd_X9_figureAt⟩ ⟨Nat.le_of_ble_eq_true rfl, Nat.le_of_ble_eq_true rfl⟩ ⟨rfl, rfl⟩ rfl rfl rfl (Nat.le_of_ble_eq_true rfl) ?_
      refine AR.istore (pc := 41) (L2 := [(5, .int (r4.1)), (4, .int (r1.1)), (0, .ref 0), (1, .int x1), (2, .int x2), (3, .int x3)]) dX9_two_41 (by decide) rfl ?_
      refine AR.iload (pc := 43) (j := 0) dX9_two_43 rfl ?_
      refine AR.if_ge (pc := 45) (tgt := 61) dX9_two_45 (by decide) (fun c5 => ?_) (fun c5 => ?_)
      · replace h := ite_t c5 h
        refine AR.ldc2 (pc := 61) (v := 10) dX9_two_61 (wsU_in kl_X9_128) ?_
        refine AR.iload (pc := 64) (j := 1) dX9_two_64 rfl ?_
        refine AR.i2l (pc := 66) dX9_two_66 ?_
        refine AR.lmul (pc := 67) dX9_two_67 ?_
        refine AR.iload (pc := 68) (j := 0) dX9_two_68 rfl ?_
        refine AR.i2l (pc := 70) dX9_two_70 ?_
        refine AR.ladd (pc := 71) dX9_two_71 ?_
        refine AR.lconst (pc := 72) (v := 1) dX9_two_72 (by decide) ?_
        refine AR.iload_n (pc := 73) (j := 5) dX9_two_73 rfl rfl ?_
        refine AR.i2l (pc := 74) dX9_two_74 ?_
        obtain ⟨r6, h6, h⟩ := bd_some h
        refine AR.callS (pc := 75) (As := [.long ((10 * ((r1.1 : Int32).toInt64)) + ((r4.1 : Int32).toInt64)), .long 1, .long ((x3 : Int32).toInt64)]) (st := []) dX9_two_75 ⟨cd_X9_in, sm_X9_in, ini_X9⟩ ml_X9_102 (A9_in ((10 * ((r1.1 : Int32).toInt64)) + ((r4.1 : Int32).toInt64)) 1 ((x3 : Int32).toInt64) (r4.2) _ h6) ⟨rfl, pd_X9_in⟩ ⟨Nat.le_of_ble_eq_true rfl, Nat.le_of_ble_eq_true rfl⟩ ⟨rfl, rfl⟩ rfl (Nat.le_of_ble_eq_true rfl) ?_
        refine AR.istore (pc := 78) (L2 := [(6, .int (r6.1)), (5, .int (r4.1)), (4, .int (r1.1)), (0, .ref 0), (1, .int x1), (2, .int x2), (3, .int x3)]) dX9_two_78 (by decide) rfl ?_
        refine AR.aload_n (pc := 80) (j := 3) dX9_two_80 rfl rfl ?_
        refine AR.dup (pc := 81) dX9_two_81 rfl ?_
        refine AR.getf (pc := 82) (ci := 9) (j := 11) (d := 0) (v := .int ((r6.2).1 0 11)) (T := TX9) dX9_two_82 rfl rfl rfl (by decide) (fun w hw => wsU_in (uw_X9 w hw)) (wsU_in fl_X9_119) rfl ?_
        refine AR.iload (pc := 85) (j := 0) dX9_two_85 rfl ?_
        refine AR.if_eq (pc := 87) (tgt := 94) dX9_two_87 (by decide) (fun c7 => ?_) (fun c7 => ?_)
        · replace h := ite_t c7 h
          refine AR.iconst (pc := 94) (v := 0) dX9_two_94 (by decide) ?_
          exact AR.pick [2, 1, 0] rfl (A9_two_95 (r1.1) (r4.1) (r6.1) 0 ((r6.2).1 0 11) (r6.2) r h)
        · replace h := ite_f c7 h
          refine AR.iconst (pc := 90) (v := 2) dX9_two_90 (by decide) ?_
          refine AR.goto (pc := 91) (tgt := 95) dX9_two_91 (by decide) ?_
          exact AR.pick [2, 1, 0] rfl (A9_two_95 (r1.1) (r4.1) (r6.1) 2 ((r6.2).1 0 11) (r6.2) r h)
      · replace h := ite_f c5 h
        refine AR.aload_n (pc := 48) (j := 2) dX9_two_48 rfl rfl ?_
        refine AR.dup (pc := 49) dX9_two_49 rfl ?_
        refine AR.getf (pc := 50) (ci := 9) (j := 11) (d := 0) (v := .int ((r4.2).1 0 11)) (T := TX9) dX9_two_50 rfl rfl rfl (by decide) (fun w hw => wsU_in (uw_X9 w hw)) (wsU_in fl_X9_119) rfl ?_
        refine AR.iconst (pc := 53) (v := 1) dX9_two_53 (by decide) ?_
        refine AR.iadd (pc := 54) dX9_two_54 ?_
        refine AR.putI (pc := 55) (ci := 9) (j := 11) (T := TX9) (ty0 := tyX9) (ty := .int) dX9_two_55 rfl rfl rfl (by decide) (fun w hw => wsU_in (uw_X9 w hw)) tyX9_ok nmX9 (wsU_in fl_X9_119) rfl (by decide +kernel) rfl rfl ?_
        refine AR.bipush (pc := 58) (v := (-9)) dX9_two_58 (by decide) ?_
        exact AR.iret (pc := 60) rfl dX9_two_60 (hrI (Option.some.inj h))
    · replace h := ite_f c3 h
      refine AR.bipush (pc := 26) (v := (-9)) dX9_two_26 (by decide) ?_
      exact AR.iret (pc := 28) rfl dX9_two_28 (hrI (Option.some.inj h))
noncomputable def f9_readsWord_110 (x3 : Int32) (x4 : Int32) (z0 : Int32) (z1 : Int32) (σ : HS) : Option (Int32 × HS) :=
  if (z1 : Int32) < 0 ∨ 15 ≤ (z1 : Int32).toNatClampNeg then none else
  if (x3 : Int32) < 0 ∨ 5 ≤ (x3 : Int32).toNatClampNeg then none else
  if (x3 : Int32) < 0 ∨ 5 ≤ (x3 : Int32).toNatClampNeg then none else
  if (x4 : Int32) < 0 ∨ 15 ≤ (x4 : Int32).toNatClampNeg then none else
  if (((uI (uI σ 11 (z1 : Int32).toNatClampNeg z0) 8 (x3 : Int32).toNatClampNeg (((uI σ 11 (z1 : Int32).toNatClampNeg z0).1 8 (x3 : Int32).toNatClampNeg) + 1)).1 11 (x4 : Int32).toNatClampNeg) : Int32) < 0 then
    some (0, (uI (uI σ 11 (z1 : Int32).toNatClampNeg z0) 8 (x3 : Int32).toNatClampNeg (((uI σ 11 (z1 : Int32).toNatClampNeg z0).1 8 (x3 : Int32).toNatClampNeg) + 1)))
  else
    some (1, (uI (uI σ 11 (z1 : Int32).toNatClampNeg z0) 8 (x3 : Int32).toNatClampNeg (((uI σ 11 (z1 : Int32).toNatClampNeg z0).1 8 (x3 : Int32).toNatClampNeg) + 1)))
noncomputable def f9_readsWord_82 (x1 : Int32) (x2 : Int32) (x3 : Int32) (x4 : Int32) (z0 : Int32) (z1 : Int32) (σ : HS) : Option (Int32 × HS) :=
  if (z1 : Int32) < 0 ∨ 15 ≤ (z1 : Int32).toNatClampNeg then none else
  if (x4 : Int32) < 0 ∨ 15 ≤ (x4 : Int32).toNatClampNeg then none else
  if 0 ≤ (((uI σ 10 (z1 : Int32).toNatClampNeg z0).1 10 (x4 : Int32).toNatClampNeg) : Int32) then
    bd (f9_figure x1 x2 (uI σ 10 (z1 : Int32).toNatClampNeg z0)) fun r4 =>
    f9_readsWord_110 x3 x4 (r4.1) x4 (r4.2)
  else
    f9_readsWord_110 x3 x4 (-9) x4 (uI σ 10 (z1 : Int32).toNatClampNeg z0)
noncomputable def f9_readsWord (x1 : Int32) (x2 : Int32) (σ : HS) : Option (Int32 × HS) :=
  if ((σ.1 0 14) : Int32) < 0 ∨ 5 ≤ ((σ.1 0 14) : Int32).toNatClampNeg then none else
  if ((σ.1 8 ((σ.1 0 14) : Int32).toNatClampNeg) : Int32) = 3 then
    some (0, σ)
  else
    bd (f9_takes 119 x1 x2 σ) fun r3 =>
    if (r3.1 : Int32) = 0 then
      some (0, r3.2)
    else
      if ((σ.1 0 14) : Int32) < 0 ∨ 5 ≤ ((σ.1 0 14) : Int32).toNatClampNeg then none else
      bd (f9_two x1 x2 60 (r3.2)) fun r6 =>
      if (((3 * (σ.1 0 14)) + ((r3.2).1 8 ((σ.1 0 14) : Int32).toNatClampNeg)) : Int32) < 0 ∨ 15 ≤ (((3 * (σ.1 0 14)) + ((r3.2).1 8 ((σ.1 0 14) : Int32).toNatClampNeg)) : Int32).toNatClampNeg then none else
      if (((3 * (σ.1 0 14)) + ((r3.2).1 8 ((σ.1 0 14) : Int32).toNatClampNeg)) : Int32) < 0 ∨ 15 ≤ (((3 * (σ.1 0 14)) + ((r3.2).1 8 ((σ.1 0 14) : Int32).toNatClampNeg)) : Int32).toNatClampNeg then none else
      if 0 ≤ (((uI (r6.2) 9 (((3 * (σ.1 0 14)) + ((r3.2).1 8 ((σ.1 0 14) : Int32).toNatClampNeg)) : Int32).toNatClampNeg (r6.1)).1 9 (((3 * (σ.1 0 14)) + ((r3.2).1 8 ((σ.1 0 14) : Int32).toNatClampNeg)) : Int32).toNatClampNeg) : Int32) then
        bd (f9_figure x1 x2 (uI (r6.2) 9 (((3 * (σ.1 0 14)) + ((r3.2).1 8 ((σ.1 0 14) : Int32).toNatClampNeg)) : Int32).toNatClampNeg (r6.1))) fun r10 =>
        f9_readsWord_82 x1 x2 (σ.1 0 14) ((3 * (σ.1 0 14)) + ((r3.2).1 8 ((σ.1 0 14) : Int32).toNatClampNeg)) (r10.1) ((3 * (σ.1 0 14)) + ((r3.2).1 8 ((σ.1 0 14) : Int32).toNatClampNeg)) (r10.2)
      else
        f9_readsWord_82 x1 x2 (σ.1 0 14) ((3 * (σ.1 0 14)) + ((r3.2).1 8 ((σ.1 0 14) : Int32).toNatClampNeg)) (-9) ((3 * (σ.1 0 14)) + ((r3.2).1 8 ((σ.1 0 14) : Int32).toNatClampNeg)) (uI (r6.2) 9 (((3 * (σ.1 0 14)) + ((r3.2).1 8 ((σ.1 0 14) : Int32).toNatClampNeg)) : Int32).toNatClampNeg (r6.1))
set_option maxHeartbeats 4000000 in
set_option maxRecDepth 100000 in
theorem A9_readsWord_110 {l : Launch} (x3 : Int32) (x4 : Int32) (z0 : Int32) (z1 : Int32) (σ : HS) (r : Int32 × HS) (h : f9_readsWord_110 x3 x4 z0 z1 σ = some r) : AR l RX9 cX9_readsWord 5 (some .boolean) (wsU yX9_readsWord cX9_readsWord 5 (some .boolean)) rm9_readsWord SM 110 [(0, .ref 0), (3, .int x3), (4, .int x4)] [.int z0, .int z1, .ref 11] σ (some (.int r.1), r.2) := by
  unfold f9_readsWord_110 at h
  obtain ⟨c1, h⟩ := gn_some h
  refine AR.iastore (pc := 110) dX9_readsWord_110 rfl c1 ?_
  refine AR.aload_n (pc := 111) (j := 0) dX9_readsWord_111 rfl rfl ?_
  refine AR.getf (pc := 112) (ci := 9) (j := 16) (d := 8 + 2) (v := .ref 8) (T := TX9) dX9_readsWord_112 rfl rfl rfl (by decide) (fun w hw => wsU_in (uw_X9 w hw)) (wsU_in fl_X9_31) rfl ?_
  refine AR.iload_n (pc := 115) (j := 1) dX9_readsWord_115 rfl rfl ?_
  refine AR.dup2 (pc := 116) dX9_readsWord_116 rfl rfl ?_
  obtain ⟨c2, h⟩ := gn_some h
  refine AR.iaload (pc := 117) dX9_readsWord_117 rfl c2 ?_
  refine AR.iconst (pc := 118) (v := 1) dX9_readsWord_118 (by decide) ?_
  refine AR.iadd (pc := 119) dX9_readsWord_119 ?_
  obtain ⟨c3, h⟩ := gn_some h
  refine AR.iastore (pc := 120) dX9_readsWord_120 rfl c3 ?_
  refine AR.aload_n (pc := 121) (j := 0) dX9_readsWord_121 rfl rfl ?_
  refine AR.getf (pc := 122) (ci := 9) (j := 19) (d := 11 + 2) (v := .ref 11) (T := TX9) dX9_readsWord_122 rfl rfl rfl (by decide) (fun w hw => wsU_in (uw_X9 w hw)) (wsU_in fl_X9_40) rfl ?_
  refine AR.iload (pc := 125) (j := 2) dX9_readsWord_125 rfl ?_
  obtain ⟨c4, h⟩ := gn_some h
  refine AR.iaload (pc := 127) dX9_readsWord_127 rfl c4 ?_
  refine AR.if_lt (pc := 128) (tgt := 135) dX9_readsWord_128 (by decide) (fun c5 => ?_) (fun c5 => ?_)
  · replace h := ite_t c5 h
    refine AR.iconst (pc := 135) (v := 0) dX9_readsWord_135 (by decide) ?_
    exact AR.zret (pc := 136) rfl (Or.inl rfl) dX9_readsWord_136 (hrI (Option.some.inj h))
  · replace h := ite_f c5 h
    refine AR.iconst (pc := 131) (v := 1) dX9_readsWord_131 (by decide) ?_
    refine AR.goto (pc := 132) (tgt := 136) dX9_readsWord_132 (by decide) ?_
    exact AR.zret (pc := 136) rfl (Or.inr rfl) dX9_readsWord_136 (hrI (Option.some.inj h))
set_option maxHeartbeats 4000000 in
set_option maxRecDepth 100000 in
theorem A9_readsWord_82 {l : Launch} (x1 : Int32) (x2 : Int32) (x3 : Int32) (x4 : Int32) (z0 : Int32) (z1 : Int32) (σ : HS) (r : Int32 × HS) (h : f9_readsWord_82 x1 x2 x3 x4 z0 z1 σ = some r) : AR l RX9 cX9_readsWord 5 (some .boolean) (wsU yX9_readsWord cX9_readsWord 5 (some .boolean)) rm9_readsWord SM 82 [(0, .ref 0), (1, .int x1), (2, .int x2), (3, .int x3), (4, .int x4)] [.int z0, .int z1, .ref 10] σ (some (.int r.1), r.2) := by
  unfold f9_readsWord_82 at h
  obtain ⟨c1, h⟩ := gn_some h
  refine AR.iastore (pc := 82) dX9_readsWord_82 rfl c1 ?_
  refine AR.aload_n (pc := 83) (j := 0) dX9_readsWord_83 rfl rfl ?_
  refine AR.getf (pc := 84) (ci := 9) (j := 19) (d := 11 + 2) (v := .ref 11) (T := TX9) dX9_readsWord_84 rfl rfl rfl (by decide) (fun w hw => wsU_in (uw_X9 w hw)) (wsU_in fl_X9_40) rfl ?_
  refine AR.iload (pc := 87) (j := 4) dX9_readsWord_87 rfl ?_
  refine AR.aload_n (pc := 89) (j := 0) dX9_readsWord_89 rfl rfl ?_
  refine AR.getf (pc := 90) (ci := 9) (j := 18) (d := 10 + 2) (v := .ref 10) (T := TX9) dX9_readsWord_90 rfl rfl rfl (by decide) (fun w hw => wsU_in (uw_X9 w hw)) (wsU_in fl_X9_37) rfl ?_
  refine AR.iload (pc := 93) (j := 4) dX9_readsWord_93 rfl ?_
  obtain ⟨c2, h⟩ := gn_some h
  refine AR.iaload (pc := 95) dX9_readsWord_95 rfl c2 ?_
  refine AR.if_ge (pc := 96) (tgt := 104) dX9_readsWord_96 (by decide) (fun c3 => ?_) (fun c3 => ?_)
  · replace h := ite_t c3 h
    refine AR.aload_n (pc := 104) (j := 0) dX9_readsWord_104 rfl rfl ?_
    refine AR.iload_n (pc := 105) (j := 1) dX9_readsWord_105 rfl rfl ?_
    refine AR.iload_n (pc := 106) (j := 2) dX9_readsWord_106 rfl rfl ?_
    obtain ⟨r4, h4, h⟩ := bd_some h
    refine AR.callV (pc := 107) (As := [.int x1, .int x2]) (st := [.int x4, .ref 11]) (ci := 9) dX9_readsWord_107 ⟨cd_X9_figure, im_X9_figure, se_X9_figure, ini_X9⟩ ml_X9_140 (A9_figure x1 x2 (uI σ 10 (z1 : Int32).toNatClampNeg z0) _ h4) ⟨rfl, pd_X9_figure⟩ ⟨Nat.le_of_ble_eq_true rfl, Nat.le_of_ble_eq_true rfl⟩ ⟨rfl, rfl⟩ rfl rfl rfl (Nat.le_of_ble_eq_true rfl) ?_
    exact AR.pick [0, 3, 4] rfl (A9_readsWord_110 x3 x4 (r4.1) x4 (r4.2) r h)
  · replace h := ite_f c3 h
    refine AR.bipush (pc := 99) (v := (-9)) dX9_readsWord_99 (by decide) ?_
    refine AR.goto (pc := 101) (tgt := 110) dX9_readsWord_101 (by decide) ?_
    exact AR.pick [0, 3, 4] rfl (A9_readsWord_110 x3 x4 (-9) x4 (uI σ 10 (z1 : Int32).toNatClampNeg z0) r h)
set_option maxHeartbeats 4000000 in
set_option maxRecDepth 100000 in
theorem A9_readsWord {l : Launch} (x1 : Int32) (x2 : Int32) (σ : HS) (r : Int32 × HS) (h : f9_readsWord x1 x2 σ = some r) : MA l yX9_readsWord (wsU yX9_readsWord cX9_readsWord 5 (some .boolean)) rm9_readsWord SM [.ref 0, .int x1, .int x2] σ (some (.int r.1), r.2) := by
  refine MA.of (L := [(0, .ref 0), (1, .int x1), (2, .int x2)]) pn_X9_readsWord rfl (fun _ => Nat.le_of_ble_eq_true rfl) (fun _ => rfl) ?_
  unfold f9_readsWord at h
  refine AR.aload_n (pc := 0) (j := 0) dX9_readsWord_0 rfl rfl ?_
  refine AR.getf (pc := 1) (ci := 9) (j := 14) (d := 0) (v := .int (σ.1 0 14)) (T := TX9) dX9_readsWord_1 rfl rfl rfl (by decide) (fun w hw => wsU_in (uw_X9 w hw)) (wsU_in fl_X9_130) rfl ?_
  refine AR.istore_n (pc := 4) (L2 := [(3, .int (σ.1 0 14)), (0, .ref 0), (1, .int x1), (2, .int x2)]) dX9_readsWord_4 rfl (by decide) rfl ?_
  refine AR.aload_n (pc := 5) (j := 1) dX9_readsWord_5 rfl rfl ?_
  refine AR.getf (pc := 6) (ci := 9) (j := 16) (d := 8 + 2) (v := .ref 8) (T := TX9) dX9_readsWord_6 rfl rfl rfl (by decide) (fun w hw => wsU_in (uw_X9 w hw)) (wsU_in fl_X9_31) rfl ?_
  refine AR.iload_n (pc := 9) (j := 0) dX9_readsWord_9 rfl rfl ?_
  obtain ⟨c1, h⟩ := gn_some h
  refine AR.iaload (pc := 10) dX9_readsWord_10 rfl c1 ?_
  refine AR.iconst (pc := 11) (v := 3) dX9_readsWord_11 (by decide) ?_
  refine AR.icmp_eq (pc := 12) (tgt := 26) dX9_readsWord_12 (by decide) (fun c2 => ?_) (fun c2 => ?_)
  · replace h := ite_t c2 h
    refine AR.iconst (pc := 26) (v := 0) dX9_readsWord_26 (by decide) ?_
    exact AR.zret (pc := 27) rfl (Or.inl rfl) dX9_readsWord_27 (hrI (Option.some.inj h))
  · replace h := ite_f c2 h
    refine AR.aload_n (pc := 15) (j := 1) dX9_readsWord_15 rfl rfl ?_
    refine AR.bipush (pc := 16) (v := 119) dX9_readsWord_16 (by decide) ?_
    refine AR.iload_n (pc := 18) (j := 2) dX9_readsWord_18 rfl rfl ?_
    refine AR.iload_n (pc := 19) (j := 3) dX9_readsWord_19 rfl rfl ?_
    obtain ⟨r3, h3, h⟩ := bd_some h
    refine AR.callV (pc := 20) (As := [.int 119, .int x1, .int x2]) (st := []) (ci := 9) dX9_readsWord_20 ⟨cd_X9_takes, im_X9_takes, se_X9_takes, ini_X9⟩ ml_X9_133 (A9_takes 119 x1 x2 σ _ h3) ⟨rfl, pd_X9_takes⟩ ⟨Nat.le_of_ble_eq_true rfl, Nat.le_of_ble_eq_true rfl⟩ ⟨rfl, rfl⟩ rfl rfl rfl (Nat.le_of_ble_eq_true rfl) ?_
    refine AR.if_ne (pc := 23) (tgt := 28) dX9_readsWord_23 (by decide) (fun c4 => ?_) (fun c4 => ?_)
    · replace h := ite_f c4 h
      refine AR.iconst (pc := 28) (v := 3) dX9_readsWord_28 (by decide) ?_
      refine AR.iload_n (pc := 29) (j := 0) dX9_readsWord_29 rfl rfl ?_
      refine AR.imul (pc := 30) dX9_readsWord_30 ?_
      refine AR.aload_n (pc := 31) (j := 1) dX9_readsWord_31 rfl rfl ?_
      refine AR.getf (pc := 32) (ci := 9) (j := 16) (d := 8 + 2) (v := .ref 8) (T := TX9) dX9_readsWord_32 rfl rfl rfl (by decide) (fun w hw => wsU_in (uw_X9 w hw)) (wsU_in fl_X9_31) rfl ?_
      refine AR.iload_n (pc := 35) (j := 0) dX9_readsWord_35 rfl rfl ?_
      obtain ⟨c5, h⟩ := gn_some h
      refine AR.iaload (pc := 36) dX9_readsWord_36 rfl c5 ?_
      refine AR.iadd (pc := 37) dX9_readsWord_37 ?_
      refine AR.istore (pc := 38) (L2 := [(4, .int ((3 * (σ.1 0 14)) + ((r3.2).1 8 ((σ.1 0 14) : Int32).toNatClampNeg))), (3, .int (σ.1 0 14)), (0, .ref 0), (1, .int x1), (2, .int x2)]) dX9_readsWord_38 (by decide) rfl ?_
      refine AR.aload_n (pc := 40) (j := 2) dX9_readsWord_40 rfl rfl ?_
      refine AR.getf (pc := 41) (ci := 9) (j := 17) (d := 9 + 2) (v := .ref 9) (T := TX9) dX9_readsWord_41 rfl rfl rfl (by decide) (fun w hw => wsU_in (uw_X9 w hw)) (wsU_in fl_X9_34) rfl ?_
      refine AR.iload (pc := 44) (j := 0) dX9_readsWord_44 rfl ?_
      refine AR.aload_n (pc := 46) (j := 2) dX9_readsWord_46 rfl rfl ?_
      refine AR.iload_n (pc := 47) (j := 3) dX9_readsWord_47 rfl rfl ?_
      refine AR.iload_n (pc := 48) (j := 4) dX9_readsWord_48 rfl rfl ?_
      refine AR.bipush (pc := 49) (v := 60) dX9_readsWord_49 (by decide) ?_
      obtain ⟨r6, h6, h⟩ := bd_some h
      refine AR.callV (pc := 51) (As := [.int x1, .int x2, .int 60]) (st := [.int ((3 * (σ.1 0 14)) + ((r3.2).1 8 ((σ.1 0 14) : Int32).toNatClampNeg)), .ref 9]) (ci := 9) dX9_readsWord_51 ⟨cd_X9_two, im_X9_two, se_X9_two, ini_X9⟩ ml_X9_137 (A9_two x1 x2 60 (r3.2) _ h6) ⟨rfl, pd_X9_two⟩ ⟨Nat.le_of_ble_eq_true rfl, Nat.le_of_ble_eq_true rfl⟩ ⟨rfl, rfl⟩ rfl rfl rfl (Nat.le_of_ble_eq_true rfl) ?_
      obtain ⟨c7, h⟩ := gn_some h
      refine AR.iastore (pc := 54) dX9_readsWord_54 rfl c7 ?_
      refine AR.aload_n (pc := 55) (j := 2) dX9_readsWord_55 rfl rfl ?_
      refine AR.getf (pc := 56) (ci := 9) (j := 18) (d := 10 + 2) (v := .ref 10) (T := TX9) dX9_readsWord_56 rfl rfl rfl (by decide) (fun w hw => wsU_in (uw_X9 w hw)) (wsU_in fl_X9_37) rfl ?_
      refine AR.iload (pc := 59) (j := 0) dX9_readsWord_59 rfl ?_
      refine AR.aload_n (pc := 61) (j := 2) dX9_readsWord_61 rfl rfl ?_
      refine AR.getf (pc := 62) (ci := 9) (j := 17) (d := 9 + 2) (v := .ref 9) (T := TX9) dX9_readsWord_62 rfl rfl rfl (by decide) (fun w hw => wsU_in (uw_X9 w hw)) (wsU_in fl_X9_34) rfl ?_
      refine AR.iload (pc := 65) (j := 0) dX9_readsWord_65 rfl ?_
      obtain ⟨c8, h⟩ := gn_some h
      refine AR.iaload (pc := 67) dX9_readsWord_67 rfl c8 ?_
      refine AR.if_ge (pc := 68) (tgt := 76) dX9_readsWord_68 (by decide) (fun c9 => ?_) (fun c9 => ?_)
      · replace h := ite_t c9 h
        refine AR.aload_n (pc := 76) (j := 2) dX9_readsWord_76 rfl rfl ?_
        refine AR.iload_n (pc := 77) (j := 3) dX9_readsWord_77 rfl rfl ?_
        refine AR.iload_n (pc := 78) (j := 4) dX9_readsWord_78 rfl rfl ?_
        obtain ⟨r10, h10, h⟩ := bd_some h
        refine AR.callV (pc := 79) (As := [.int x1, .int x2]) (st := [.int ((3 * (σ.1 0 14)) + ((r3.2).1 8 ((σ.1 0 14) : Int32).toNatClampNeg)), .ref 10]) (ci := 9) dX9_readsWord_79 ⟨cd_X9_figure, im_X9_figure, se_X9_figure, ini_X9⟩ ml_X9_140 (A9_figure x1 x2 (uI (r6.2) 9 (((3 * (σ.1 0 14)) + ((r3.2).1 8 ((σ.1 0 14) : Int32).toNatClampNeg)) : Int32).toNatClampNeg (r6.1)) _ h10) ⟨rfl, pd_X9_figure⟩ ⟨Nat.le_of_ble_eq_true rfl, Nat.le_of_ble_eq_true rfl⟩ ⟨rfl, rfl⟩ rfl rfl rfl (Nat.le_of_ble_eq_true rfl) ?_
        exact AR.pick [2, 3, 4, 1, 0] rfl (A9_readsWord_82 x1 x2 (σ.1 0 14) ((3 * (σ.1 0 14)) + ((r3.2).1 8 ((σ.1 0 14) : Int32).toNatClampNeg)) (r10.1) ((3 * (σ.1 0 14)) + ((r3.2).1 8 ((σ.1 0 14) : Int32).toNatClampNeg)) (r10.2) r h)
      · replace h := ite_f c9 h
        refine AR.bipush (pc := 71) (v := (-9)) dX9_readsWord_71 (by decide) ?_
        refine AR.goto (pc := 73) (tgt := 82) dX9_readsWord_73 (by decide) ?_
        exact AR.pick [2, 3, 4, 1, 0] rfl (A9_readsWord_82 x1 x2 (σ.1 0 14) ((3 * (σ.1 0 14)) + ((r3.2).1 8 ((σ.1 0 14) : Int32).toNatClampNeg)) (-9) ((3 * (σ.1 0 14)) + ((r3.2).1 8 ((σ.1 0 14) : Int32).toNatClampNeg)) (uI (r6.2) 9 (((3 * (σ.1 0 14)) + ((r3.2).1 8 ((σ.1 0 14) : Int32).toNatClampNeg)) : Int32).toNatClampNeg (r6.1)) r h)
    · replace h := ite_t c4 h
      refine AR.iconst (pc := 26) (v := 0) dX9_readsWord_26 (by decide) ?_
      exact AR.zret (pc := 27) rfl (Or.inl rfl) dX9_readsWord_27 (hrI (Option.some.inj h))
noncomputable def f9_readsSpeaker_150 (x5 : Int32) (z0 : Int32) (z1 : Int32) (σ : HS) : Option (Int32 × HS) :=
  if (x5 : Int32) = 0 ∨ (x5 : Int32) = 1 then some (x5, (uI σ 0 14 (z1 + z0))) else none
noncomputable def f9_readsSpeaker_135 (x5 : Int32) (σ : HS) : Option (Int32 × HS) :=
  if (x5 : Int32) = 0 then
    f9_readsSpeaker_150 x5 0 (σ.1 0 14) σ
  else
    f9_readsSpeaker_150 x5 1 (σ.1 0 14) σ
noncomputable def f9_readsSpeaker_108_b (k108 : Int32 × HS → Option (Int32 × HS)) (x1 : Int32) (x2 : Int32) (x5 : Int32) (σ : HS) : Option (Int32 × HS) :=
  if (x5 : Int32) = 0 then
    f9_readsSpeaker_135 x5 σ
  else
    bd (f9_codeAt x1 x2 σ) fun r2 =>
    if (r2.1 : Int32) = 119 then
      bd (f9_readsWord x1 x2 (r2.2)) fun r4 =>
      k108 (r4.1, r4.2)
    else
      f9_readsSpeaker_135 x5 (r2.2)
noncomputable def f9_readsSpeaker_108 (x1 : Int32) (x2 : Int32) (p : Int32 × HS) : Option (Int32 × HS) :=
  wloop (fun k108 p => f9_readsSpeaker_108_b k108 x1 x2 p.1 p.2) fuelN p
noncomputable def f9_readsSpeaker_91 (x1 : Int32) (x2 : Int32) (x4 : Int32) (z0 : Int32) (z1 : Int32) (σ : HS) : Option (Int32 × HS) :=
  if (z1 : Int32) < 0 ∨ 5 ≤ (z1 : Int32).toNatClampNeg then none else
  if (x4 : Int32) < 0 ∨ 5 ≤ (x4 : Int32).toNatClampNeg then none else
  bd (f9_readsWord x1 x2 (uI (uI σ 7 (z1 : Int32).toNatClampNeg z0) 8 (x4 : Int32).toNatClampNeg 0)) fun r3 =>
  f9_readsSpeaker_108 x1 x2 (r3.1, r3.2)
noncomputable def f9_readsSpeaker_48 (x1 : Int32) (x2 : Int32) (x3 : Int32) (σ : HS) : Option (Int32 × HS) :=
  if (x3 : Int32) = 112 then
    f9_readsSpeaker_91 x1 x2 ((uI σ 0 11 ((σ.1 0 11) + 1)).1 0 14) 0 ((uI σ 0 11 ((σ.1 0 11) + 1)).1 0 14) (uI σ 0 11 ((σ.1 0 11) + 1))
  else
    if (x3 : Int32) = 116 then
      f9_readsSpeaker_91 x1 x2 ((uI σ 0 11 ((σ.1 0 11) + 1)).1 0 14) 1 ((uI σ 0 11 ((σ.1 0 11) + 1)).1 0 14) (uI σ 0 11 ((σ.1 0 11) + 1))
    else
      f9_readsSpeaker_91 x1 x2 ((uI σ 0 11 ((σ.1 0 11) + 1)).1 0 14) 2 ((uI σ 0 11 ((σ.1 0 11) + 1)).1 0 14) (uI σ 0 11 ((σ.1 0 11) + 1))
noncomputable def f9_readsSpeaker (x1 : Int32) (x2 : Int32) (σ : HS) : Option (Int32 × HS) :=
  if ((σ.1 0 14) : Int32) = 5 then
    some (0, σ)
  else
    bd (f9_takes 59 x1 x2 σ) fun r2 =>
    if (r2.1 : Int32) = 0 then
      some (0, r2.2)
    else
      bd (f9_codeAt x1 x2 (r2.2)) fun r4 =>
      if (r4.1 : Int32) = 112 then
        f9_readsSpeaker_48 x1 x2 (r4.1) (r4.2)
      else
        if (r4.1 : Int32) = 116 then
          f9_readsSpeaker_48 x1 x2 (r4.1) (r4.2)
        else
          if (r4.1 : Int32) = 111 then
            f9_readsSpeaker_48 x1 x2 (r4.1) (r4.2)
          else
            some (0, r4.2)
set_option maxHeartbeats 4000000 in
set_option maxRecDepth 100000 in
theorem A9_readsSpeaker_150 {l : Launch} (x5 : Int32) (z0 : Int32) (z1 : Int32) (σ : HS) (r : Int32 × HS) (h : f9_readsSpeaker_150 x5 z0 z1 σ = some r) : AR l RX9 cX9_readsSpeaker 6 (some .boolean) (wsU yX9_readsSpeaker cX9_readsSpeaker 6 (some .boolean)) rm9_readsSpeaker SM 150 [(5, .int x5)] [.int z0, .int z1, .ref 0] σ (some (.int r.1), r.2) := by
  unfold f9_readsSpeaker_150 at h
  refine AR.iadd (pc := 150) dX9_readsSpeaker_150 ?_
  refine AR.putI (pc := 151) (ci := 9) (j := 14) (T := TX9) (ty0 := tyX9) (ty := .int) dX9_readsSpeaker_151 rfl rfl rfl (by decide) (fun w hw => wsU_in (uw_X9 w hw)) tyX9_ok nmX9 (wsU_in fl_X9_130) rfl (by decide +kernel) rfl rfl ?_
  refine AR.iload (pc := 154) (j := 0) dX9_readsSpeaker_154 rfl ?_
  obtain ⟨c1, h⟩ := gp_some h
  exact AR.zret (pc := 156) rfl c1 dX9_readsSpeaker_156 (hrI (Option.some.inj h))
set_option maxHeartbeats 4000000 in
set_option maxRecDepth 100000 in
theorem A9_readsSpeaker_135 {l : Launch} (x5 : Int32) (σ : HS) (r : Int32 × HS) (h : f9_readsSpeaker_135 x5 σ = some r) : AR l RX9 cX9_readsSpeaker 6 (some .boolean) (wsU yX9_readsSpeaker cX9_readsSpeaker 6 (some .boolean)) rm9_readsSpeaker SM 135 [(0, .ref 0), (5, .int x5)] [] σ (some (.int r.1), r.2) := by
  unfold f9_readsSpeaker_135 at h
  refine AR.aload_n (pc := 135) (j := 0) dX9_readsSpeaker_135 rfl rfl ?_
  refine AR.dup (pc := 136) dX9_readsSpeaker_136 rfl ?_
  refine AR.getf (pc := 137) (ci := 9) (j := 14) (d := 0) (v := .int (σ.1 0 14)) (T := TX9) dX9_readsSpeaker_137 rfl rfl rfl (by decide) (fun w hw => wsU_in (uw_X9 w hw)) (wsU_in fl_X9_130) rfl ?_
  refine AR.iload (pc := 140) (j := 1) dX9_readsSpeaker_140 rfl ?_
  refine AR.if_eq (pc := 142) (tgt := 149) dX9_readsSpeaker_142 (by decide) (fun c1 => ?_) (fun c1 => ?_)
  · replace h := ite_t c1 h
    refine AR.iconst (pc := 149) (v := 0) dX9_readsSpeaker_149 (by decide) ?_
    exact AR.pick [1] rfl (A9_readsSpeaker_150 x5 0 (σ.1 0 14) σ r h)
  · replace h := ite_f c1 h
    refine AR.iconst (pc := 145) (v := 1) dX9_readsSpeaker_145 (by decide) ?_
    refine AR.goto (pc := 146) (tgt := 150) dX9_readsSpeaker_146 (by decide) ?_
    exact AR.pick [1] rfl (A9_readsSpeaker_150 x5 1 (σ.1 0 14) σ r h)
set_option maxHeartbeats 4000000 in
set_option maxRecDepth 100000 in
theorem A9_readsSpeaker_108_b {l : Launch} (k108 : Int32 × HS → Option (Int32 × HS)) (x1 : Int32) (x2 : Int32) (x5 : Int32) (hk108 : ∀ (p : Int32 × HS) (r : Int32 × HS), k108 p = some r → AR l RX9 cX9_readsSpeaker 6 (some .boolean) (wsU yX9_readsSpeaker cX9_readsSpeaker 6 (some .boolean)) rm9_readsSpeaker SM 108 [(0, .ref 0), (1, .int x1), (2, .int x2), (5, .int (p.1))] [] p.2 (some (.int r.1), r.2)) (σ : HS) (r : Int32 × HS) (h : f9_readsSpeaker_108_b k108 x1 x2 x5 σ = some r) : AR l RX9 cX9_readsSpeaker 6 (some .boolean) (wsU yX9_readsSpeaker cX9_readsSpeaker 6 (some .boolean)) rm9_readsSpeaker SM 108 [(0, .ref 0), (1, .int x1), (2, .int x2), (5, .int x5)] [] σ (some (.int r.1), r.2) := by
  unfold f9_readsSpeaker_108_b at h
  refine AR.iload (pc := 108) (j := 3) dX9_readsSpeaker_108 rfl ?_
  refine AR.if_eq (pc := 110) (tgt := 135) dX9_readsSpeaker_110 (by decide) (fun c1 => ?_) (fun c1 => ?_)
  · replace h := ite_t c1 h
    exact AR.pick [0, 3] rfl (A9_readsSpeaker_135 x5 σ r h)
  · replace h := ite_f c1 h
    refine AR.aload_n (pc := 113) (j := 0) dX9_readsSpeaker_113 rfl rfl ?_
    refine AR.iload_n (pc := 114) (j := 1) dX9_readsSpeaker_114 rfl rfl ?_
    refine AR.iload_n (pc := 115) (j := 2) dX9_readsSpeaker_115 rfl rfl ?_
    obtain ⟨r2, h2, h⟩ := bd_some h
    refine AR.callV (pc := 116) (As := [.int x1, .int x2]) (st := []) (ci := 9) dX9_readsSpeaker_116 ⟨cd_X9_codeAt, im_X9_codeAt, se_X9_codeAt, ini_X9⟩ ml_X9_144 (A9_codeAt x1 x2 σ _ h2) ⟨rfl, pd_X9_codeAt⟩ ⟨Nat.le_of_ble_eq_true rfl, Nat.le_of_ble_eq_true rfl⟩ ⟨rfl, rfl⟩ rfl rfl rfl (Nat.le_of_ble_eq_true rfl) ?_
    refine AR.bipush (pc := 119) (v := 119) dX9_readsSpeaker_119 (by decide) ?_
    refine AR.icmp_ne (pc := 121) (tgt := 135) dX9_readsSpeaker_121 (by decide) (fun c3 => ?_) (fun c3 => ?_)
    · replace h := ite_f c3 h
      exact AR.pick [0, 3] rfl (A9_readsSpeaker_135 x5 (r2.2) r h)
    · replace h := ite_t c3 h
      refine AR.aload_n (pc := 124) (j := 0) dX9_readsSpeaker_124 rfl rfl ?_
      refine AR.iload_n (pc := 125) (j := 1) dX9_readsSpeaker_125 rfl rfl ?_
      refine AR.iload_n (pc := 126) (j := 2) dX9_readsSpeaker_126 rfl rfl ?_
      obtain ⟨r4, h4, h⟩ := bd_some h
      refine AR.callV (pc := 127) (As := [.int x1, .int x2]) (st := []) (ci := 9) dX9_readsSpeaker_127 ⟨cd_X9_readsWord, im_X9_readsWord, se_X9_readsWord, ini_X9⟩ ml_X9_147 (A9_readsWord x1 x2 (r2.2) _ h4) ⟨rfl, pd_X9_readsWord⟩ ⟨Nat.le_of_ble_eq_true rfl, Nat.le_of_ble_eq_true rfl⟩ ⟨rfl, rfl⟩ rfl rfl rfl (Nat.le_of_ble_eq_true rfl) ?_
      refine AR.istore (pc := 130) (L2 := [(5, .int (r4.1)), (0, .ref 0), (1, .int x1), (2, .int x2)]) dX9_readsSpeaker_130 (by decide) rfl ?_
      refine AR.goto (pc := 132) (tgt := 108) dX9_readsSpeaker_132 (by decide) ?_
      exact AR.pick [1, 2, 3, 0] rfl (hk108 (r4.1, r4.2) r h)
theorem A9_readsSpeaker_108 {l : Launch} (x1 : Int32) (x2 : Int32) (p : Int32 × HS) (r : Int32 × HS) (h : f9_readsSpeaker_108 x1 x2 p = some r) : AR l RX9 cX9_readsSpeaker 6 (some .boolean) (wsU yX9_readsSpeaker cX9_readsSpeaker 6 (some .boolean)) rm9_readsSpeaker SM 108 [(0, .ref 0), (1, .int x1), (2, .int x2), (5, .int (p.1))] [] p.2 (some (.int r.1), r.2) := by
  unfold f9_readsSpeaker_108 at h
  exact wloop_run (body := fun k108 p => f9_readsSpeaker_108_b k108 x1 x2 p.1 p.2) (Q := fun p r => AR l RX9 cX9_readsSpeaker 6 (some .boolean) (wsU yX9_readsSpeaker cX9_readsSpeaker 6 (some .boolean)) rm9_readsSpeaker SM 108 [(0, .ref 0), (1, .int x1), (2, .int x2), (5, .int (p.1))] [] p.2 (some (.int r.1), r.2)) (fun k108 hk108 p r h => A9_readsSpeaker_108_b k108 x1 x2 p.1 hk108 p.2 r h) fuelN p r h
set_option maxHeartbeats 4000000 in
set_option maxRecDepth 100000 in
theorem A9_readsSpeaker_91 {l : Launch} (x1 : Int32) (x2 : Int32) (x4 : Int32) (z0 : Int32) (z1 : Int32) (σ : HS) (r : Int32 × HS) (h : f9_readsSpeaker_91 x1 x2 x4 z0 z1 σ = some r) : AR l RX9 cX9_readsSpeaker 6 (some .boolean) (wsU yX9_readsSpeaker cX9_readsSpeaker 6 (some .boolean)) rm9_readsSpeaker SM 91 [(0, .ref 0), (1, .int x1), (2, .int x2), (4, .int x4)] [.int z0, .int z1, .ref 7] σ (some (.int r.1), r.2) := by
  unfold f9_readsSpeaker_91 at h
  obtain ⟨c1, h⟩ := gn_some h
  refine AR.iastore (pc := 91) dX9_readsSpeaker_91 rfl c1 ?_
  refine AR.aload_n (pc := 92) (j := 0) dX9_readsSpeaker_92 rfl rfl ?_
  refine AR.getf (pc := 93) (ci := 9) (j := 16) (d := 8 + 2) (v := .ref 8) (T := TX9) dX9_readsSpeaker_93 rfl rfl rfl (by decide) (fun w hw => wsU_in (uw_X9 w hw)) (wsU_in fl_X9_31) rfl ?_
  refine AR.iload (pc := 96) (j := 3) dX9_readsSpeaker_96 rfl ?_
  refine AR.iconst (pc := 98) (v := 0) dX9_readsSpeaker_98 (by decide) ?_
  obtain ⟨c2, h⟩ := gn_some h
  refine AR.iastore (pc := 99) dX9_readsSpeaker_99 rfl c2 ?_
  refine AR.aload_n (pc := 100) (j := 0) dX9_readsSpeaker_100 rfl rfl ?_
  refine AR.iload_n (pc := 101) (j := 1) dX9_readsSpeaker_101 rfl rfl ?_
  refine AR.iload_n (pc := 102) (j := 2) dX9_readsSpeaker_102 rfl rfl ?_
  obtain ⟨r3, h3, h⟩ := bd_some h
  refine AR.callV (pc := 103) (As := [.int x1, .int x2]) (st := []) (ci := 9) dX9_readsSpeaker_103 ⟨cd_X9_readsWord, im_X9_readsWord, se_X9_readsWord, ini_X9⟩ ml_X9_147 (A9_readsWord x1 x2 (uI (uI σ 7 (z1 : Int32).toNatClampNeg z0) 8 (x4 : Int32).toNatClampNeg 0) _ h3) ⟨rfl, pd_X9_readsWord⟩ ⟨Nat.le_of_ble_eq_true rfl, Nat.le_of_ble_eq_true rfl⟩ ⟨rfl, rfl⟩ rfl rfl rfl (Nat.le_of_ble_eq_true rfl) ?_
  refine AR.istore (pc := 106) (L2 := [(5, .int (r3.1)), (0, .ref 0), (1, .int x1), (2, .int x2), (4, .int x4)]) dX9_readsSpeaker_106 (by decide) rfl ?_
  exact AR.pick [1, 2, 3, 0] rfl (A9_readsSpeaker_108 x1 x2 (r3.1, r3.2) r h)
set_option maxHeartbeats 4000000 in
set_option maxRecDepth 100000 in
theorem A9_readsSpeaker_48 {l : Launch} (x1 : Int32) (x2 : Int32) (x3 : Int32) (σ : HS) (r : Int32 × HS) (h : f9_readsSpeaker_48 x1 x2 x3 σ = some r) : AR l RX9 cX9_readsSpeaker 6 (some .boolean) (wsU yX9_readsSpeaker cX9_readsSpeaker 6 (some .boolean)) rm9_readsSpeaker SM 48 [(0, .ref 0), (1, .int x1), (2, .int x2), (3, .int x3)] [] σ (some (.int r.1), r.2) := by
  unfold f9_readsSpeaker_48 at h
  refine AR.aload_n (pc := 48) (j := 0) dX9_readsSpeaker_48 rfl rfl ?_
  refine AR.dup (pc := 49) dX9_readsSpeaker_49 rfl ?_
  refine AR.getf (pc := 50) (ci := 9) (j := 11) (d := 0) (v := .int (σ.1 0 11)) (T := TX9) dX9_readsSpeaker_50 rfl rfl rfl (by decide) (fun w hw => wsU_in (uw_X9 w hw)) (wsU_in fl_X9_119) rfl ?_
  refine AR.iconst (pc := 53) (v := 1) dX9_readsSpeaker_53 (by decide) ?_
  refine AR.iadd (pc := 54) dX9_readsSpeaker_54 ?_
  refine AR.putI (pc := 55) (ci := 9) (j := 11) (T := TX9) (ty0 := tyX9) (ty := .int) dX9_readsSpeaker_55 rfl rfl rfl (by decide) (fun w hw => wsU_in (uw_X9 w hw)) tyX9_ok nmX9 (wsU_in fl_X9_119) rfl (by decide +kernel) rfl rfl ?_
  refine AR.aload_n (pc := 58) (j := 0) dX9_readsSpeaker_58 rfl rfl ?_
  refine AR.getf (pc := 59) (ci := 9) (j := 14) (d := 0) (v := .int ((uI σ 0 11 ((σ.1 0 11) + 1)).1 0 14)) (T := TX9) dX9_readsSpeaker_59 rfl rfl rfl (by decide) (fun w hw => wsU_in (uw_X9 w hw)) (wsU_in fl_X9_130) rfl ?_
  refine AR.istore (pc := 62) (L2 := [(4, .int ((uI σ 0 11 ((σ.1 0 11) + 1)).1 0 14)), (0, .ref 0), (1, .int x1), (2, .int x2), (3, .int x3)]) dX9_readsSpeaker_62 (by decide) rfl ?_
  refine AR.aload_n (pc := 64) (j := 1) dX9_readsSpeaker_64 rfl rfl ?_
  refine AR.getf (pc := 65) (ci := 9) (j := 15) (d := 7 + 2) (v := .ref 7) (T := TX9) dX9_readsSpeaker_65 rfl rfl rfl (by decide) (fun w hw => wsU_in (uw_X9 w hw)) (wsU_in fl_X9_28) rfl ?_
  refine AR.iload (pc := 68) (j := 0) dX9_readsSpeaker_68 rfl ?_
  refine AR.iload_n (pc := 70) (j := 4) dX9_readsSpeaker_70 rfl rfl ?_
  refine AR.bipush (pc := 71) (v := 112) dX9_readsSpeaker_71 (by decide) ?_
  refine AR.icmp_ne (pc := 73) (tgt := 80) dX9_readsSpeaker_73 (by decide) (fun c1 => ?_) (fun c1 => ?_)
  · replace h := ite_f c1 h
    refine AR.iload_n (pc := 80) (j := 4) dX9_readsSpeaker_80 rfl rfl ?_
    refine AR.bipush (pc := 81) (v := 116) dX9_readsSpeaker_81 (by decide) ?_
    refine AR.icmp_ne (pc := 83) (tgt := 90) dX9_readsSpeaker_83 (by decide) (fun c2 => ?_) (fun c2 => ?_)
    · replace h := ite_f c2 h
      refine AR.iconst (pc := 90) (v := 2) dX9_readsSpeaker_90 (by decide) ?_
      exact AR.pick [1, 2, 3, 0] rfl (A9_readsSpeaker_91 x1 x2 ((uI σ 0 11 ((σ.1 0 11) + 1)).1 0 14) 2 ((uI σ 0 11 ((σ.1 0 11) + 1)).1 0 14) (uI σ 0 11 ((σ.1 0 11) + 1)) r h)
    · replace h := ite_t c2 h
      refine AR.iconst (pc := 86) (v := 1) dX9_readsSpeaker_86 (by decide) ?_
      refine AR.goto (pc := 87) (tgt := 91) dX9_readsSpeaker_87 (by decide) ?_
      exact AR.pick [1, 2, 3, 0] rfl (A9_readsSpeaker_91 x1 x2 ((uI σ 0 11 ((σ.1 0 11) + 1)).1 0 14) 1 ((uI σ 0 11 ((σ.1 0 11) + 1)).1 0 14) (uI σ 0 11 ((σ.1 0 11) + 1)) r h)
  · replace h := ite_t c1 h
    refine AR.iconst (pc := 76) (v := 0) dX9_readsSpeaker_76 (by decide) ?_
    refine AR.goto (pc := 77) (tgt := 91) dX9_readsSpeaker_77 (by decide) ?_
    exact AR.pick [1, 2, 3, 0] rfl (A9_readsSpeaker_91 x1 x2 ((uI σ 0 11 ((σ.1 0 11) + 1)).1 0 14) 0 ((uI σ 0 11 ((σ.1 0 11) + 1)).1 0 14) (uI σ 0 11 ((σ.1 0 11) + 1)) r h)
set_option maxHeartbeats 4000000 in
set_option maxRecDepth 100000 in
theorem A9_readsSpeaker {l : Launch} (x1 : Int32) (x2 : Int32) (σ : HS) (r : Int32 × HS) (h : f9_readsSpeaker x1 x2 σ = some r) : MA l yX9_readsSpeaker (wsU yX9_readsSpeaker cX9_readsSpeaker 6 (some .boolean)) rm9_readsSpeaker SM [.ref 0, .int x1, .int x2] σ (some (.int r.1), r.2) := by
  refine MA.of (L := [(0, .ref 0), (1, .int x1), (2, .int x2)]) pn_X9_readsSpeaker rfl (fun _ => Nat.le_of_ble_eq_true rfl) (fun _ => rfl) ?_
  unfold f9_readsSpeaker at h
  refine AR.aload_n (pc := 0) (j := 0) dX9_readsSpeaker_0 rfl rfl ?_
  refine AR.getf (pc := 1) (ci := 9) (j := 14) (d := 0) (v := .int (σ.1 0 14)) (T := TX9) dX9_readsSpeaker_1 rfl rfl rfl (by decide) (fun w hw => wsU_in (uw_X9 w hw)) (wsU_in fl_X9_130) rfl ?_
  refine AR.iconst (pc := 4) (v := 5) dX9_readsSpeaker_4 (by decide) ?_
  refine AR.icmp_eq (pc := 5) (tgt := 19) dX9_readsSpeaker_5 (by decide) (fun c1 => ?_) (fun c1 => ?_)
  · replace h := ite_t c1 h
    refine AR.iconst (pc := 19) (v := 0) dX9_readsSpeaker_19 (by decide) ?_
    exact AR.zret (pc := 20) rfl (Or.inl rfl) dX9_readsSpeaker_20 (hrI (Option.some.inj h))
  · replace h := ite_f c1 h
    refine AR.aload_n (pc := 8) (j := 0) dX9_readsSpeaker_8 rfl rfl ?_
    refine AR.bipush (pc := 9) (v := 59) dX9_readsSpeaker_9 (by decide) ?_
    refine AR.iload_n (pc := 11) (j := 1) dX9_readsSpeaker_11 rfl rfl ?_
    refine AR.iload_n (pc := 12) (j := 2) dX9_readsSpeaker_12 rfl rfl ?_
    obtain ⟨r2, h2, h⟩ := bd_some h
    refine AR.callV (pc := 13) (As := [.int 59, .int x1, .int x2]) (st := []) (ci := 9) dX9_readsSpeaker_13 ⟨cd_X9_takes, im_X9_takes, se_X9_takes, ini_X9⟩ ml_X9_133 (A9_takes 59 x1 x2 σ _ h2) ⟨rfl, pd_X9_takes⟩ ⟨Nat.le_of_ble_eq_true rfl, Nat.le_of_ble_eq_true rfl⟩ ⟨rfl, rfl⟩ rfl rfl rfl (Nat.le_of_ble_eq_true rfl) ?_
    refine AR.if_ne (pc := 16) (tgt := 21) dX9_readsSpeaker_16 (by decide) (fun c3 => ?_) (fun c3 => ?_)
    · replace h := ite_f c3 h
      refine AR.aload_n (pc := 21) (j := 0) dX9_readsSpeaker_21 rfl rfl ?_
      refine AR.iload_n (pc := 22) (j := 1) dX9_readsSpeaker_22 rfl rfl ?_
      refine AR.iload_n (pc := 23) (j := 2) dX9_readsSpeaker_23 rfl rfl ?_
      obtain ⟨r4, h4, h⟩ := bd_some h
      refine AR.callV (pc := 24) (As := [.int x1, .int x2]) (st := []) (ci := 9) dX9_readsSpeaker_24 ⟨cd_X9_codeAt, im_X9_codeAt, se_X9_codeAt, ini_X9⟩ ml_X9_144 (A9_codeAt x1 x2 (r2.2) _ h4) ⟨rfl, pd_X9_codeAt⟩ ⟨Nat.le_of_ble_eq_true rfl, Nat.le_of_ble_eq_true rfl⟩ ⟨rfl, rfl⟩ rfl rfl rfl (Nat.le_of_ble_eq_true rfl) ?_
      refine AR.istore_n (pc := 27) (L2 := [(3, .int (r4.1)), (0, .ref 0), (1, .int x1), (2, .int x2)]) dX9_readsSpeaker_27 rfl (by decide) rfl ?_
      refine AR.iload_n (pc := 28) (j := 0) dX9_readsSpeaker_28 rfl rfl ?_
      refine AR.bipush (pc := 29) (v := 112) dX9_readsSpeaker_29 (by decide) ?_
      refine AR.icmp_eq (pc := 31) (tgt := 48) dX9_readsSpeaker_31 (by decide) (fun c5 => ?_) (fun c5 => ?_)
      · replace h := ite_t c5 h
        exact AR.pick [1, 2, 3, 0] rfl (A9_readsSpeaker_48 x1 x2 (r4.1) (r4.2) r h)
      · replace h := ite_f c5 h
        refine AR.iload_n (pc := 34) (j := 0) dX9_readsSpeaker_34 rfl rfl ?_
        refine AR.bipush (pc := 35) (v := 116) dX9_readsSpeaker_35 (by decide) ?_
        refine AR.icmp_eq (pc := 37) (tgt := 48) dX9_readsSpeaker_37 (by decide) (fun c6 => ?_) (fun c6 => ?_)
        · replace h := ite_t c6 h
          exact AR.pick [1, 2, 3, 0] rfl (A9_readsSpeaker_48 x1 x2 (r4.1) (r4.2) r h)
        · replace h := ite_f c6 h
          refine AR.iload_n (pc := 40) (j := 0) dX9_readsSpeaker_40 rfl rfl ?_
          refine AR.bipush (pc := 41) (v := 111) dX9_readsSpeaker_41 (by decide) ?_
          refine AR.icmp_eq (pc := 43) (tgt := 48) dX9_readsSpeaker_43 (by decide) (fun c7 => ?_) (fun c7 => ?_)
          · replace h := ite_t c7 h
            exact AR.pick [1, 2, 3, 0] rfl (A9_readsSpeaker_48 x1 x2 (r4.1) (r4.2) r h)
          · replace h := ite_f c7 h
            refine AR.iconst (pc := 46) (v := 0) dX9_readsSpeaker_46 (by decide) ?_
            exact AR.zret (pc := 47) rfl (Or.inl rfl) dX9_readsSpeaker_47 (hrI (Option.some.inj h))
    · replace h := ite_t c3 h
      refine AR.iconst (pc := 19) (v := 0) dX9_readsSpeaker_19 (by decide) ?_
      exact AR.zret (pc := 20) rfl (Or.inl rfl) dX9_readsSpeaker_20 (hrI (Option.some.inj h))
noncomputable def f9_readsCouncil_112 (k92 : Int32 × HS → Option (Int32 × HS)) (x1 : Int32) (x2 : Int32) (σ : HS) : Option (Int32 × HS) :=
  bd (f9_readsSpeaker x1 x2 σ) fun r1 =>
  k92 (r1.1, r1.2)
noncomputable def f9_readsCouncil_92_b (k92 : Int32 × HS → Option (Int32 × HS)) (x1 : Int32) (x2 : Int32) (x3 : Int32) (σ : HS) : Option (Int32 × HS) :=
  if (x3 : Int32) = 0 then
    if (x3 : Int32) = 0 ∨ (x3 : Int32) = 1 then some (x3, σ) else none
  else
    if ((σ.1 0 14) : Int32) < 2 then
      f9_readsCouncil_112 k92 x1 x2 σ
    else
      if (x2 : Int32) ≤ (σ.1 0 11) then
        if (x3 : Int32) = 0 ∨ (x3 : Int32) = 1 then some (x3, σ) else none
      else
        f9_readsCouncil_112 k92 x1 x2 σ
noncomputable def f9_readsCouncil_92 (x1 : Int32) (x2 : Int32) (p : Int32 × HS) : Option (Int32 × HS) :=
  wloop (fun k92 p => f9_readsCouncil_92_b k92 x1 x2 p.1 p.2) fuelN p
noncomputable def f9_readsCouncil_91 (x1 : Int32) (x2 : Int32) (z0 : Int32) (σ : HS) : Option (Int32 × HS) :=
  f9_readsCouncil_92 x1 x2 (z0, σ)
noncomputable def f9_readsCouncil_35 (x1 : Int32) (x2 : Int32) (z0 : Int32) (σ : HS) : Option (Int32 × HS) :=
  if (((uI σ 0 12 z0).1 0 12) : Int32) < 0 then
    some (0, (uI σ 0 12 z0))
  else
    bd (f9_takes 59 x1 x2 (uI σ 0 12 z0)) fun r2 =>
    if (r2.1 : Int32) = 0 then
      some (0, r2.2)
    else
      bd (f9_takes 108 x1 x2 (r2.2)) fun r4 =>
      if (r4.1 : Int32) = 0 then
        some (0, r4.2)
      else
        bd (f9_figure x1 x2 (r4.2)) fun r6 =>
        if (((uI (r6.2) 0 13 (r6.1)).1 0 13) : Int32) < 0 then
          f9_readsCouncil_91 x1 x2 0 (uI (r6.2) 0 13 (r6.1))
        else
          f9_readsCouncil_91 x1 x2 1 (uI (r6.2) 0 13 (r6.1))
noncomputable def f9_readsCouncil (x1 : Int32) (x2 : Int32) (σ : HS) : Option (Int32 × HS) :=
  bd (f9_takes 106 x1 x2 (uI (uI σ 0 11 0) 0 14 0)) fun r1 =>
  if (r1.1 : Int32) = 0 then
    f9_readsCouncil_35 x1 x2 (-9) (r1.2)
  else
    bd (f9_two x1 x2 99 (r1.2)) fun r3 =>
    f9_readsCouncil_35 x1 x2 (r3.1) (r3.2)
set_option maxHeartbeats 4000000 in
set_option maxRecDepth 100000 in
theorem A9_readsCouncil_112 {l : Launch} (k92 : Int32 × HS → Option (Int32 × HS)) (x1 : Int32) (x2 : Int32) (hk92 : ∀ (p : Int32 × HS) (r : Int32 × HS), k92 p = some r → AR l RX9 cX9_readsCouncil 4 (some .boolean) (wsU yX9_readsCouncil cX9_readsCouncil 4 (some .boolean)) rm9_readsCouncil SM 92 [(0, .ref 0), (1, .int x1), (2, .int x2), (3, .int (p.1))] [] p.2 (some (.int r.1), r.2)) (σ : HS) (r : Int32 × HS) (h : f9_readsCouncil_112 k92 x1 x2 σ = some r) : AR l RX9 cX9_readsCouncil 4 (some .boolean) (wsU yX9_readsCouncil cX9_readsCouncil 4 (some .boolean)) rm9_readsCouncil SM 112 [(0, .ref 0), (1, .int x1), (2, .int x2)] [] σ (some (.int r.1), r.2) := by
  unfold f9_readsCouncil_112 at h
  refine AR.aload_n (pc := 112) (j := 0) dX9_readsCouncil_112 rfl rfl ?_
  refine AR.iload_n (pc := 113) (j := 1) dX9_readsCouncil_113 rfl rfl ?_
  refine AR.iload_n (pc := 114) (j := 2) dX9_readsCouncil_114 rfl rfl ?_
  obtain ⟨r1, h1, h⟩ := bd_some h
  refine AR.callV (pc := 115) (As := [.int x1, .int x2]) (st := []) (ci := 9) dX9_readsCouncil_115 ⟨cd_X9_readsSpeaker, im_X9_readsSpeaker, se_X9_readsSpeaker, ini_X9⟩ ml_X9_157 (A9_readsSpeaker x1 x2 σ _ h1) ⟨rfl, pd_X9_readsSpeaker⟩ ⟨Nat.le_of_ble_eq_true rfl, Nat.le_of_ble_eq_true rfl⟩ ⟨rfl, rfl⟩ rfl rfl rfl (Nat.le_of_ble_eq_true rfl) ?_
  refine AR.istore_n (pc := 118) (L2 := [(3, .int (r1.1)), (0, .ref 0), (1, .int x1), (2, .int x2)]) dX9_readsCouncil_118 rfl (by decide) rfl ?_
  refine AR.goto (pc := 119) (tgt := 92) dX9_readsCouncil_119 (by decide) ?_
  exact AR.pick [1, 2, 3, 0] rfl (hk92 (r1.1, r1.2) r h)
set_option maxHeartbeats 4000000 in
set_option maxRecDepth 100000 in
theorem A9_readsCouncil_92_b {l : Launch} (k92 : Int32 × HS → Option (Int32 × HS)) (x1 : Int32) (x2 : Int32) (x3 : Int32) (hk92 : ∀ (p : Int32 × HS) (r : Int32 × HS), k92 p = some r → AR l RX9 cX9_readsCouncil 4 (some .boolean) (wsU yX9_readsCouncil cX9_readsCouncil 4 (some .boolean)) rm9_readsCouncil SM 92 [(0, .ref 0), (1, .int x1), (2, .int x2), (3, .int (p.1))] [] p.2 (some (.int r.1), r.2)) (σ : HS) (r : Int32 × HS) (h : f9_readsCouncil_92_b k92 x1 x2 x3 σ = some r) : AR l RX9 cX9_readsCouncil 4 (some .boolean) (wsU yX9_readsCouncil cX9_readsCouncil 4 (some .boolean)) rm9_readsCouncil SM 92 [(0, .ref 0), (1, .int x1), (2, .int x2), (3, .int x3)] [] σ (some (.int r.1), r.2) := by
  unfold f9_readsCouncil_92_b at h
  refine AR.iload_n (pc := 92) (j := 3) dX9_readsCouncil_92 rfl rfl ?_
  refine AR.if_eq (pc := 93) (tgt := 122) dX9_readsCouncil_93 (by decide) (fun c1 => ?_) (fun c1 => ?_)
  · replace h := ite_t c1 h
    refine AR.iload_n (pc := 122) (j := 3) dX9_readsCouncil_122 rfl rfl ?_
    obtain ⟨c2, h⟩ := gp_some h
    exact AR.zret (pc := 123) rfl c2 dX9_readsCouncil_123 (hrI (Option.some.inj h))
  · replace h := ite_f c1 h
    refine AR.aload_n (pc := 96) (j := 0) dX9_readsCouncil_96 rfl rfl ?_
    refine AR.getf (pc := 97) (ci := 9) (j := 14) (d := 0) (v := .int (σ.1 0 14)) (T := TX9) dX9_readsCouncil_97 rfl rfl rfl (by decide) (fun w hw => wsU_in (uw_X9 w hw)) (wsU_in fl_X9_130) rfl ?_
    refine AR.iconst (pc := 100) (v := 2) dX9_readsCouncil_100 (by decide) ?_
    refine AR.icmp_lt (pc := 101) (tgt := 112) dX9_readsCouncil_101 (by decide) (fun c3 => ?_) (fun c3 => ?_)
    · replace h := ite_t c3 h
      exact AR.pick [0, 1, 2] rfl (A9_readsCouncil_112 k92 x1 x2 hk92 σ r h)
    · replace h := ite_f c3 h
      refine AR.aload_n (pc := 104) (j := 0) dX9_readsCouncil_104 rfl rfl ?_
      refine AR.getf (pc := 105) (ci := 9) (j := 11) (d := 0) (v := .int (σ.1 0 11)) (T := TX9) dX9_readsCouncil_105 rfl rfl rfl (by decide) (fun w hw => wsU_in (uw_X9 w hw)) (wsU_in fl_X9_119) rfl ?_
      refine AR.iload_n (pc := 108) (j := 2) dX9_readsCouncil_108 rfl rfl ?_
      refine AR.icmp_ge (pc := 109) (tgt := 122) dX9_readsCouncil_109 (by decide) (fun c4 => ?_) (fun c4 => ?_)
      · replace h := ite_t c4 h
        refine AR.iload_n (pc := 122) (j := 3) dX9_readsCouncil_122 rfl rfl ?_
        obtain ⟨c5, h⟩ := gp_some h
        exact AR.zret (pc := 123) rfl c5 dX9_readsCouncil_123 (hrI (Option.some.inj h))
      · replace h := ite_f c4 h
        exact AR.pick [0, 1, 2] rfl (A9_readsCouncil_112 k92 x1 x2 hk92 σ r h)
theorem A9_readsCouncil_92 {l : Launch} (x1 : Int32) (x2 : Int32) (p : Int32 × HS) (r : Int32 × HS) (h : f9_readsCouncil_92 x1 x2 p = some r) : AR l RX9 cX9_readsCouncil 4 (some .boolean) (wsU yX9_readsCouncil cX9_readsCouncil 4 (some .boolean)) rm9_readsCouncil SM 92 [(0, .ref 0), (1, .int x1), (2, .int x2), (3, .int (p.1))] [] p.2 (some (.int r.1), r.2) := by
  unfold f9_readsCouncil_92 at h
  exact wloop_run (body := fun k92 p => f9_readsCouncil_92_b k92 x1 x2 p.1 p.2) (Q := fun p r => AR l RX9 cX9_readsCouncil 4 (some .boolean) (wsU yX9_readsCouncil cX9_readsCouncil 4 (some .boolean)) rm9_readsCouncil SM 92 [(0, .ref 0), (1, .int x1), (2, .int x2), (3, .int (p.1))] [] p.2 (some (.int r.1), r.2)) (fun k92 hk92 p r h => A9_readsCouncil_92_b k92 x1 x2 p.1 hk92 p.2 r h) fuelN p r h
set_option maxHeartbeats 4000000 in
set_option maxRecDepth 100000 in
theorem A9_readsCouncil_91 {l : Launch} (x1 : Int32) (x2 : Int32) (z0 : Int32) (σ : HS) (r : Int32 × HS) (h : f9_readsCouncil_91 x1 x2 z0 σ = some r) : AR l RX9 cX9_readsCouncil 4 (some .boolean) (wsU yX9_readsCouncil cX9_readsCouncil 4 (some .boolean)) rm9_readsCouncil SM 91 [(0, .ref 0), (1, .int x1), (2, .int x2)] [.int z0] σ (some (.int r.1), r.2) := by
  unfold f9_readsCouncil_91 at h
  refine AR.istore_n (pc := 91) (L2 := [(3, .int z0), (0, .ref 0), (1, .int x1), (2, .int x2)]) dX9_readsCouncil_91 rfl (by decide) rfl ?_
  exact AR.pick [1, 2, 3, 0] rfl (A9_readsCouncil_92 x1 x2 (z0, σ) r h)
set_option maxHeartbeats 4000000 in
set_option maxRecDepth 100000 in
theorem A9_readsCouncil_35 {l : Launch} (x1 : Int32) (x2 : Int32) (z0 : Int32) (σ : HS) (r : Int32 × HS) (h : f9_readsCouncil_35 x1 x2 z0 σ = some r) : AR l RX9 cX9_readsCouncil 4 (some .boolean) (wsU yX9_readsCouncil cX9_readsCouncil 4 (some .boolean)) rm9_readsCouncil SM 35 [(0, .ref 0), (1, .int x1), (2, .int x2)] [.int z0, .ref 0] σ (some (.int r.1), r.2) := by
  unfold f9_readsCouncil_35 at h
  refine AR.putI (pc := 35) (ci := 9) (j := 12) (T := TX9) (ty0 := tyX9) (ty := .int) dX9_readsCouncil_35 rfl rfl rfl (by decide) (fun w hw => wsU_in (uw_X9 w hw)) tyX9_ok nmX9 (wsU_in fl_X9_151) rfl (by decide +kernel) rfl rfl ?_
  refine AR.aload_n (pc := 38) (j := 0) dX9_readsCouncil_38 rfl rfl ?_
  refine AR.getf (pc := 39) (ci := 9) (j := 12) (d := 0) (v := .int ((uI σ 0 12 z0).1 0 12)) (T := TX9) dX9_readsCouncil_39 rfl rfl rfl (by decide) (fun w hw => wsU_in (uw_X9 w hw)) (wsU_in fl_X9_151) rfl ?_
  refine AR.if_lt (pc := 42) (tgt := 67) dX9_readsCouncil_42 (by decide) (fun c1 => ?_) (fun c1 => ?_)
  · replace h := ite_t c1 h
    refine AR.iconst (pc := 67) (v := 0) dX9_readsCouncil_67 (by decide) ?_
    exact AR.zret (pc := 68) rfl (Or.inl rfl) dX9_readsCouncil_68 (hrI (Option.some.inj h))
  · replace h := ite_f c1 h
    refine AR.aload_n (pc := 45) (j := 0) dX9_readsCouncil_45 rfl rfl ?_
    refine AR.bipush (pc := 46) (v := 59) dX9_readsCouncil_46 (by decide) ?_
    refine AR.iload_n (pc := 48) (j := 1) dX9_readsCouncil_48 rfl rfl ?_
    refine AR.iload_n (pc := 49) (j := 2) dX9_readsCouncil_49 rfl rfl ?_
    obtain ⟨r2, h2, h⟩ := bd_some h
    refine AR.callV (pc := 50) (As := [.int 59, .int x1, .int x2]) (st := []) (ci := 9) dX9_readsCouncil_50 ⟨cd_X9_takes, im_X9_takes, se_X9_takes, ini_X9⟩ ml_X9_133 (A9_takes 59 x1 x2 (uI σ 0 12 z0) _ h2) ⟨rfl, pd_X9_takes⟩ ⟨Nat.le_of_ble_eq_true rfl, Nat.le_of_ble_eq_true rfl⟩ ⟨rfl, rfl⟩ rfl rfl rfl (Nat.le_of_ble_eq_true rfl) ?_
    refine AR.if_eq (pc := 53) (tgt := 67) dX9_readsCouncil_53 (by decide) (fun c3 => ?_) (fun c3 => ?_)
    · replace h := ite_t c3 h
      refine AR.iconst (pc := 67) (v := 0) dX9_readsCouncil_67 (by decide) ?_
      exact AR.zret (pc := 68) rfl (Or.inl rfl) dX9_readsCouncil_68 (hrI (Option.some.inj h))
    · replace h := ite_f c3 h
      refine AR.aload_n (pc := 56) (j := 0) dX9_readsCouncil_56 rfl rfl ?_
      refine AR.bipush (pc := 57) (v := 108) dX9_readsCouncil_57 (by decide) ?_
      refine AR.iload_n (pc := 59) (j := 1) dX9_readsCouncil_59 rfl rfl ?_
      refine AR.iload_n (pc := 60) (j := 2) dX9_readsCouncil_60 rfl rfl ?_
      obtain ⟨r4, h4, h⟩ := bd_some h
      refine AR.callV (pc := 61) (As := [.int 108, .int x1, .int x2]) (st := []) (ci := 9) dX9_readsCouncil_61 ⟨cd_X9_takes, im_X9_takes, se_X9_takes, ini_X9⟩ ml_X9_133 (A9_takes 108 x1 x2 (r2.2) _ h4) ⟨rfl, pd_X9_takes⟩ ⟨Nat.le_of_ble_eq_true rfl, Nat.le_of_ble_eq_true rfl⟩ ⟨rfl, rfl⟩ rfl rfl rfl (Nat.le_of_ble_eq_true rfl) ?_
      refine AR.if_ne (pc := 64) (tgt := 69) dX9_readsCouncil_64 (by decide) (fun c5 => ?_) (fun c5 => ?_)
      · replace h := ite_f c5 h
        refine AR.aload_n (pc := 69) (j := 0) dX9_readsCouncil_69 rfl rfl ?_
        refine AR.aload_n (pc := 70) (j := 0) dX9_readsCouncil_70 rfl rfl ?_
        refine AR.iload_n (pc := 71) (j := 1) dX9_readsCouncil_71 rfl rfl ?_
        refine AR.iload_n (pc := 72) (j := 2) dX9_readsCouncil_72 rfl rfl ?_
        obtain ⟨r6, h6, h⟩ := bd_some h
        refine AR.callV (pc := 73) (As := [.int x1, .int x2]) (st := [.ref 0]) (ci := 9) dX9_readsCouncil_73 ⟨cd_X9_figure, im_X9_figure, se_X9_figure, ini_X9⟩ ml_X9_140 (A9_figure x1 x2 (r4.2) _ h6) ⟨rfl, pd_X9_figure⟩ ⟨Nat.le_of_ble_eq_true rfl, Nat.le_of_ble_eq_true rfl⟩ ⟨rfl, rfl⟩ rfl rfl rfl (Nat.le_of_ble_eq_true rfl) ?_
        refine AR.putI (pc := 76) (ci := 9) (j := 13) (T := TX9) (ty0 := tyX9) (ty := .int) dX9_readsCouncil_76 rfl rfl rfl (by decide) (fun w hw => wsU_in (uw_X9 w hw)) tyX9_ok nmX9 (wsU_in fl_X9_154) rfl (by decide +kernel) rfl rfl ?_
        refine AR.aload_n (pc := 79) (j := 0) dX9_readsCouncil_79 rfl rfl ?_
        refine AR.getf (pc := 80) (ci := 9) (j := 13) (d := 0) (v := .int ((uI (r6.2) 0 13 (r6.1)).1 0 13)) (T := TX9) dX9_readsCouncil_80 rfl rfl rfl (by decide) (fun w hw => wsU_in (uw_X9 w hw)) (wsU_in fl_X9_154) rfl ?_
        refine AR.if_lt (pc := 83) (tgt := 90) dX9_readsCouncil_83 (by decide) (fun c7 => ?_) (fun c7 => ?_)
        · replace h := ite_t c7 h
          refine AR.iconst (pc := 90) (v := 0) dX9_readsCouncil_90 (by decide) ?_
          exact AR.pick [0, 1, 2] rfl (A9_readsCouncil_91 x1 x2 0 (uI (r6.2) 0 13 (r6.1)) r h)
        · replace h := ite_f c7 h
          refine AR.iconst (pc := 86) (v := 1) dX9_readsCouncil_86 (by decide) ?_
          refine AR.goto (pc := 87) (tgt := 91) dX9_readsCouncil_87 (by decide) ?_
          exact AR.pick [0, 1, 2] rfl (A9_readsCouncil_91 x1 x2 1 (uI (r6.2) 0 13 (r6.1)) r h)
      · replace h := ite_t c5 h
        refine AR.iconst (pc := 67) (v := 0) dX9_readsCouncil_67 (by decide) ?_
        exact AR.zret (pc := 68) rfl (Or.inl rfl) dX9_readsCouncil_68 (hrI (Option.some.inj h))
set_option maxHeartbeats 4000000 in
set_option maxRecDepth 100000 in
theorem A9_readsCouncil {l : Launch} (x1 : Int32) (x2 : Int32) (σ : HS) (r : Int32 × HS) (h : f9_readsCouncil x1 x2 σ = some r) : MA l yX9_readsCouncil (wsU yX9_readsCouncil cX9_readsCouncil 4 (some .boolean)) rm9_readsCouncil SM [.ref 0, .int x1, .int x2] σ (some (.int r.1), r.2) := by
  refine MA.of (L := [(0, .ref 0), (1, .int x1), (2, .int x2)]) pn_X9_readsCouncil rfl (fun _ => Nat.le_of_ble_eq_true rfl) (fun _ => rfl) ?_
  unfold f9_readsCouncil at h
  refine AR.aload_n (pc := 0) (j := 0) dX9_readsCouncil_0 rfl rfl ?_
  refine AR.iconst (pc := 1) (v := 0) dX9_readsCouncil_1 (by decide) ?_
  refine AR.putI (pc := 2) (ci := 9) (j := 11) (T := TX9) (ty0 := tyX9) (ty := .int) dX9_readsCouncil_2 rfl rfl rfl (by decide) (fun w hw => wsU_in (uw_X9 w hw)) tyX9_ok nmX9 (wsU_in fl_X9_119) rfl (by decide +kernel) rfl rfl ?_
  refine AR.aload_n (pc := 5) (j := 0) dX9_readsCouncil_5 rfl rfl ?_
  refine AR.iconst (pc := 6) (v := 0) dX9_readsCouncil_6 (by decide) ?_
  refine AR.putI (pc := 7) (ci := 9) (j := 14) (T := TX9) (ty0 := tyX9) (ty := .int) dX9_readsCouncil_7 rfl rfl rfl (by decide) (fun w hw => wsU_in (uw_X9 w hw)) tyX9_ok nmX9 (wsU_in fl_X9_130) rfl (by decide +kernel) rfl rfl ?_
  refine AR.aload_n (pc := 10) (j := 0) dX9_readsCouncil_10 rfl rfl ?_
  refine AR.aload_n (pc := 11) (j := 0) dX9_readsCouncil_11 rfl rfl ?_
  refine AR.bipush (pc := 12) (v := 106) dX9_readsCouncil_12 (by decide) ?_
  refine AR.iload_n (pc := 14) (j := 1) dX9_readsCouncil_14 rfl rfl ?_
  refine AR.iload_n (pc := 15) (j := 2) dX9_readsCouncil_15 rfl rfl ?_
  obtain ⟨r1, h1, h⟩ := bd_some h
  refine AR.callV (pc := 16) (As := [.int 106, .int x1, .int x2]) (st := [.ref 0]) (ci := 9) dX9_readsCouncil_16 ⟨cd_X9_takes, im_X9_takes, se_X9_takes, ini_X9⟩ ml_X9_133 (A9_takes 106 x1 x2 (uI (uI σ 0 11 0) 0 14 0) _ h1) ⟨rfl, pd_X9_takes⟩ ⟨Nat.le_of_ble_eq_true rfl, Nat.le_of_ble_eq_true rfl⟩ ⟨rfl, rfl⟩ rfl rfl rfl (Nat.le_of_ble_eq_true rfl) ?_
  refine AR.if_eq (pc := 19) (tgt := 33) dX9_readsCouncil_19 (by decide) (fun c2 => ?_) (fun c2 => ?_)
  · replace h := ite_t c2 h
    refine AR.bipush (pc := 33) (v := (-9)) dX9_readsCouncil_33 (by decide) ?_
    exact AR.pick [0, 1, 2] rfl (A9_readsCouncil_35 x1 x2 (-9) (r1.2) r h)
  · replace h := ite_f c2 h
    refine AR.aload_n (pc := 22) (j := 0) dX9_readsCouncil_22 rfl rfl ?_
    refine AR.iload_n (pc := 23) (j := 1) dX9_readsCouncil_23 rfl rfl ?_
    refine AR.iload_n (pc := 24) (j := 2) dX9_readsCouncil_24 rfl rfl ?_
    refine AR.bipush (pc := 25) (v := 99) dX9_readsCouncil_25 (by decide) ?_
    obtain ⟨r3, h3, h⟩ := bd_some h
    refine AR.callV (pc := 27) (As := [.int x1, .int x2, .int 99]) (st := [.ref 0]) (ci := 9) dX9_readsCouncil_27 ⟨cd_X9_two, im_X9_two, se_X9_two, ini_X9⟩ ml_X9_137 (A9_two x1 x2 99 (r1.2) _ h3) ⟨rfl, pd_X9_two⟩ ⟨Nat.le_of_ble_eq_true rfl, Nat.le_of_ble_eq_true rfl⟩ ⟨rfl, rfl⟩ rfl rfl rfl (Nat.le_of_ble_eq_true rfl) ?_
    refine AR.goto (pc := 30) (tgt := 35) dX9_readsCouncil_30 (by decide) ?_
    exact AR.pick [0, 1, 2] rfl (A9_readsCouncil_35 x1 x2 (r3.1) (r3.2) r h)
noncomputable def f9_council_139_b (k139 : Int32 × HS → Option (Int32 × HS)) (x6 : Int32) (σ : HS) : Option (Int32 × HS) :=
  if (15 : Int32) ≤ x6 then
    bd (f9_refused (σ.1 0 1) σ) fun r2 =>
    some (r2.1, r2.2)
  else
    if (x6 : Int32) < 0 ∨ 15 ≤ (x6 : Int32).toNatClampNeg then none else
    if (x6 : Int32) < 0 ∨ 15 ≤ (x6 : Int32).toNatClampNeg then none else
    if (x6 : Int32) < 0 ∨ 15 ≤ (x6 : Int32).toNatClampNeg then none else
    if (x6 : Int32) < 0 ∨ 15 ≤ (x6 : Int32).toNatClampNeg then none else
    if (x6 : Int32) < 0 ∨ 15 ≤ (x6 : Int32).toNatClampNeg then none else
    if (x6 : Int32) < 0 ∨ 15 ≤ (x6 : Int32).toNatClampNeg then none else
    k139 ((x6 + 1), (uI (uI (uI σ 3 (x6 : Int32).toNatClampNeg (σ.1 9 (x6 : Int32).toNatClampNeg)) 4 (x6 : Int32).toNatClampNeg ((uI σ 3 (x6 : Int32).toNatClampNeg (σ.1 9 (x6 : Int32).toNatClampNeg)).1 10 (x6 : Int32).toNatClampNeg)) 5 (x6 : Int32).toNatClampNeg ((uI (uI σ 3 (x6 : Int32).toNatClampNeg (σ.1 9 (x6 : Int32).toNatClampNeg)) 4 (x6 : Int32).toNatClampNeg ((uI σ 3 (x6 : Int32).toNatClampNeg (σ.1 9 (x6 : Int32).toNatClampNeg)).1 10 (x6 : Int32).toNatClampNeg)).1 11 (x6 : Int32).toNatClampNeg)))
noncomputable def f9_council_139 (p : Int32 × HS) : Option (Int32 × HS) :=
  wloop (fun k139 p => f9_council_139_b k139 p.1 p.2) fuelN p
noncomputable def f9_council_84_b (k84 : Int32 × HS → Option (Int32 × HS)) (x6 : Int32) (σ : HS) : Option (Int32 × HS) :=
  if ((σ.1 0 1) : Int32) ≤ x6 then
    f9_council_139 (0, σ)
  else
    if (x6 : Int32) < 0 ∨ 5 ≤ (x6 : Int32).toNatClampNeg then none else
    if (x6 : Int32) < 0 ∨ 5 ≤ (x6 : Int32).toNatClampNeg then none else
    if (x6 : Int32) < 0 ∨ 5 ≤ (x6 : Int32).toNatClampNeg then none else
    if (x6 : Int32) < 0 ∨ 5 ≤ (x6 : Int32).toNatClampNeg then none else
    if (x6 : Int32) < 0 ∨ 5 ≤ (x6 : Int32).toNatClampNeg then none else
    k84 ((x6 + 1), (uI (uI (uI σ 1 (x6 : Int32).toNatClampNeg (σ.1 7 (x6 : Int32).toNatClampNeg)) 2 (x6 : Int32).toNatClampNeg ((uI σ 1 (x6 : Int32).toNatClampNeg (σ.1 7 (x6 : Int32).toNatClampNeg)).1 8 (x6 : Int32).toNatClampNeg)) 6 (x6 : Int32).toNatClampNeg x6))
noncomputable def f9_council_84 (p : Int32 × HS) : Option (Int32 × HS) :=
  wloop (fun k84 p => f9_council_84_b k84 p.1 p.2) fuelN p
noncomputable def f9_council (x1 : Int32) (x2 : Int32) (x3 : Int32) (x4 : Int32) (σ : HS) : Option (Int32 × HS) :=
  bd (f9_barred x1 x2 x3 ((x4 : Int32).toInt64) σ) fun r1 =>
  if 0 ≤ (r1.1 : Int32) then
    bd (f9_readsCouncil ((100 * x1) + x3) x4 (r1.2)) fun r3 =>
    if (r3.1 : Int32) = 0 then
      bd (f9_refused ((-100) - ((r3.2).1 0 11)) (r3.2)) fun r5 =>
      some (r5.1, r5.2)
    else
      f9_council_84 (0, (uI (uI (uI (uI (uI (r3.2) 0 1 ((r3.2).1 0 14)) 0 2 ((uI (r3.2) 0 1 ((r3.2).1 0 14)).1 0 12)) 0 3 ((uI (uI (r3.2) 0 1 ((r3.2).1 0 14)) 0 2 ((uI (r3.2) 0 1 ((r3.2).1 0 14)).1 0 12)).1 0 13)) 0 4 0) 0 29 0))
  else
    some (r1.1, r1.2)
set_option maxHeartbeats 4000000 in
set_option maxRecDepth 100000 in
theorem A9_council_139_b {l : Launch} (k139 : Int32 × HS → Option (Int32 × HS)) (x6 : Int32) (hk139 : ∀ (p : Int32 × HS) (r : Int32 × HS), k139 p = some r → AR l RX9 cX9_council 7 (some .int) (wsU yX9_council cX9_council 7 (some .int)) rm9_council SM 139 [(0, .ref 0), (6, .int (p.1))] [] p.2 (some (.int r.1), r.2)) (σ : HS) (r : Int32 × HS) (h : f9_council_139_b k139 x6 σ = some r) : AR l RX9 cX9_council 7 (some .int) (wsU yX9_council cX9_council 7 (some .int)) rm9_council SM 139 [(0, .ref 0), (6, .int x6)] [] σ (some (.int r.1), r.2) := by
  unfold f9_council_139_b at h
  refine AR.iload (pc := 139) (j := 1) dX9_council_139 rfl ?_
  refine AR.bipush (pc := 141) (v := 15) dX9_council_141 (by decide) ?_
  refine AR.icmp_ge (pc := 143) (tgt := 194) dX9_council_143 (by decide) (fun c1 => ?_) (fun c1 => ?_)
  · replace h := ite_t c1 h
    refine AR.aload_n (pc := 194) (j := 0) dX9_council_194 rfl rfl ?_
    refine AR.aload_n (pc := 195) (j := 0) dX9_council_195 rfl rfl ?_
    refine AR.getf (pc := 196) (ci := 9) (j := 1) (d := 0) (v := .int (σ.1 0 1)) (T := TX9) dX9_council_196 rfl rfl rfl (by decide) (fun w hw => wsU_in (uw_X9 w hw)) (wsU_in fl_X9_113) rfl ?_
    obtain ⟨r2, h2, h⟩ := bd_some h
    refine AR.callV (pc := 199) (As := [.int (σ.1 0 1)]) (st := []) (ci := 9) dX9_council_199 ⟨cd_X9_refused, im_X9_refused, se_X9_refused, ini_X9⟩ ml_X9_96 (A9_refused (σ.1 0 1) σ _ h2) ⟨rfl, pd_X9_refused⟩ ⟨Nat.le_of_ble_eq_true rfl, Nat.le_of_ble_eq_true rfl⟩ ⟨rfl, rfl⟩ rfl rfl rfl (Nat.le_of_ble_eq_true rfl) ?_
    exact AR.iret (pc := 202) rfl dX9_council_202 (hrI (Option.some.inj h))
  · replace h := ite_f c1 h
    refine AR.aload_n (pc := 146) (j := 0) dX9_council_146 rfl rfl ?_
    refine AR.getf (pc := 147) (ci := 9) (j := 7) (d := 3 + 2) (v := .ref 3) (T := TX9) dX9_council_147 rfl rfl rfl (by decide) (fun w hw => wsU_in (uw_X9 w hw)) (wsU_in fl_X9_16) rfl ?_
    refine AR.iload (pc := 150) (j := 1) dX9_council_150 rfl ?_
    refine AR.aload_n (pc := 152) (j := 0) dX9_council_152 rfl rfl ?_
    refine AR.getf (pc := 153) (ci := 9) (j := 17) (d := 9 + 2) (v := .ref 9) (T := TX9) dX9_council_153 rfl rfl rfl (by decide) (fun w hw => wsU_in (uw_X9 w hw)) (wsU_in fl_X9_34) rfl ?_
    refine AR.iload (pc := 156) (j := 1) dX9_council_156 rfl ?_
    obtain ⟨c3, h⟩ := gn_some h
    refine AR.iaload (pc := 158) dX9_council_158 rfl c3 ?_
    obtain ⟨c4, h⟩ := gn_some h
    refine AR.iastore (pc := 159) dX9_council_159 rfl c4 ?_
    refine AR.aload_n (pc := 160) (j := 0) dX9_council_160 rfl rfl ?_
    refine AR.getf (pc := 161) (ci := 9) (j := 8) (d := 4 + 2) (v := .ref 4) (T := TX9) dX9_council_161 rfl rfl rfl (by decide) (fun w hw => wsU_in (uw_X9 w hw)) (wsU_in fl_X9_19) rfl ?_
    refine AR.iload (pc := 164) (j := 1) dX9_council_164 rfl ?_
    refine AR.aload_n (pc := 166) (j := 0) dX9_council_166 rfl rfl ?_
    refine AR.getf (pc := 167) (ci := 9) (j := 18) (d := 10 + 2) (v := .ref 10) (T := TX9) dX9_council_167 rfl rfl rfl (by decide) (fun w hw => wsU_in (uw_X9 w hw)) (wsU_in fl_X9_37) rfl ?_
    refine AR.iload (pc := 170) (j := 1) dX9_council_170 rfl ?_
    obtain ⟨c5, h⟩ := gn_some h
    refine AR.iaload (pc := 172) dX9_council_172 rfl c5 ?_
    obtain ⟨c6, h⟩ := gn_some h
    refine AR.iastore (pc := 173) dX9_council_173 rfl c6 ?_
    refine AR.aload_n (pc := 174) (j := 0) dX9_council_174 rfl rfl ?_
    refine AR.getf (pc := 175) (ci := 9) (j := 9) (d := 5 + 2) (v := .ref 5) (T := TX9) dX9_council_175 rfl rfl rfl (by decide) (fun w hw => wsU_in (uw_X9 w hw)) (wsU_in fl_X9_22) rfl ?_
    refine AR.iload (pc := 178) (j := 1) dX9_council_178 rfl ?_
    refine AR.aload_n (pc := 180) (j := 0) dX9_council_180 rfl rfl ?_
    refine AR.getf (pc := 181) (ci := 9) (j := 19) (d := 11 + 2) (v := .ref 11) (T := TX9) dX9_council_181 rfl rfl rfl (by decide) (fun w hw => wsU_in (uw_X9 w hw)) (wsU_in fl_X9_40) rfl ?_
    refine AR.iload (pc := 184) (j := 1) dX9_council_184 rfl ?_
    obtain ⟨c7, h⟩ := gn_some h
    refine AR.iaload (pc := 186) dX9_council_186 rfl c7 ?_
    obtain ⟨c8, h⟩ := gn_some h
    refine AR.iastore (pc := 187) dX9_council_187 rfl c8 ?_
    refine AR.iinc (pc := 188) (j := 1) (v := (x6 + 1)) (L2 := [(6, .int (x6 + 1)), (0, .ref 0)]) dX9_council_188 rfl rfl (by decide) rfl ?_
    refine AR.goto (pc := 191) (tgt := 139) dX9_council_191 (by decide) ?_
    exact AR.pick [1, 0] rfl (hk139 ((x6 + 1), (uI (uI (uI σ 3 (x6 : Int32).toNatClampNeg (σ.1 9 (x6 : Int32).toNatClampNeg)) 4 (x6 : Int32).toNatClampNeg ((uI σ 3 (x6 : Int32).toNatClampNeg (σ.1 9 (x6 : Int32).toNatClampNeg)).1 10 (x6 : Int32).toNatClampNeg)) 5 (x6 : Int32).toNatClampNeg ((uI (uI σ 3 (x6 : Int32).toNatClampNeg (σ.1 9 (x6 : Int32).toNatClampNeg)) 4 (x6 : Int32).toNatClampNeg ((uI σ 3 (x6 : Int32).toNatClampNeg (σ.1 9 (x6 : Int32).toNatClampNeg)).1 10 (x6 : Int32).toNatClampNeg)).1 11 (x6 : Int32).toNatClampNeg))) r h)
theorem A9_council_139 {l : Launch} (p : Int32 × HS) (r : Int32 × HS) (h : f9_council_139 p = some r) : AR l RX9 cX9_council 7 (some .int) (wsU yX9_council cX9_council 7 (some .int)) rm9_council SM 139 [(0, .ref 0), (6, .int (p.1))] [] p.2 (some (.int r.1), r.2) := by
  unfold f9_council_139 at h
  exact wloop_run (body := fun k139 p => f9_council_139_b k139 p.1 p.2) (Q := fun p r => AR l RX9 cX9_council 7 (some .int) (wsU yX9_council cX9_council 7 (some .int)) rm9_council SM 139 [(0, .ref 0), (6, .int (p.1))] [] p.2 (some (.int r.1), r.2)) (fun k139 hk139 p r h => A9_council_139_b k139 p.1 hk139 p.2 r h) fuelN p r h
set_option maxHeartbeats 4000000 in
set_option maxRecDepth 100000 in
theorem A9_council_84_b {l : Launch} (k84 : Int32 × HS → Option (Int32 × HS)) (x6 : Int32) (hk84 : ∀ (p : Int32 × HS) (r : Int32 × HS), k84 p = some r → AR l RX9 cX9_council 7 (some .int) (wsU yX9_council cX9_council 7 (some .int)) rm9_council SM 84 [(0, .ref 0), (6, .int (p.1))] [] p.2 (some (.int r.1), r.2)) (σ : HS) (r : Int32 × HS) (h : f9_council_84_b k84 x6 σ = some r) : AR l RX9 cX9_council 7 (some .int) (wsU yX9_council cX9_council 7 (some .int)) rm9_council SM 84 [(0, .ref 0), (6, .int x6)] [] σ (some (.int r.1), r.2) := by
  unfold f9_council_84_b at h
  refine AR.iload (pc := 84) (j := 1) dX9_council_84 rfl ?_
  refine AR.aload_n (pc := 86) (j := 0) dX9_council_86 rfl rfl ?_
  refine AR.getf (pc := 87) (ci := 9) (j := 1) (d := 0) (v := .int (σ.1 0 1)) (T := TX9) dX9_council_87 rfl rfl rfl (by decide) (fun w hw => wsU_in (uw_X9 w hw)) (wsU_in fl_X9_113) rfl ?_
  refine AR.icmp_ge (pc := 90) (tgt := 136) dX9_council_90 (by decide) (fun c1 => ?_) (fun c1 => ?_)
  · replace h := ite_t c1 h
    refine AR.iconst (pc := 136) (v := 0) dX9_council_136 (by decide) ?_
    refine AR.istore (pc := 137) (L2 := [(6, .int 0), (0, .ref 0)]) dX9_council_137 (by decide) rfl ?_
    exact AR.pick [1, 0] rfl (A9_council_139 (0, σ) r h)
  · replace h := ite_f c1 h
    refine AR.aload_n (pc := 93) (j := 0) dX9_council_93 rfl rfl ?_
    refine AR.getf (pc := 94) (ci := 9) (j := 5) (d := 1 + 2) (v := .ref 1) (T := TX9) dX9_council_94 rfl rfl rfl (by decide) (fun w hw => wsU_in (uw_X9 w hw)) (wsU_in fl_X9_7) rfl ?_
    refine AR.iload (pc := 97) (j := 1) dX9_council_97 rfl ?_
    refine AR.aload_n (pc := 99) (j := 0) dX9_council_99 rfl rfl ?_
    refine AR.getf (pc := 100) (ci := 9) (j := 15) (d := 7 + 2) (v := .ref 7) (T := TX9) dX9_council_100 rfl rfl rfl (by decide) (fun w hw => wsU_in (uw_X9 w hw)) (wsU_in fl_X9_28) rfl ?_
    refine AR.iload (pc := 103) (j := 1) dX9_council_103 rfl ?_
    obtain ⟨c2, h⟩ := gn_some h
    refine AR.iaload (pc := 105) dX9_council_105 rfl c2 ?_
    obtain ⟨c3, h⟩ := gn_some h
    refine AR.iastore (pc := 106) dX9_council_106 rfl c3 ?_
    refine AR.aload_n (pc := 107) (j := 0) dX9_council_107 rfl rfl ?_
    refine AR.getf (pc := 108) (ci := 9) (j := 6) (d := 2 + 2) (v := .ref 2) (T := TX9) dX9_council_108 rfl rfl rfl (by decide) (fun w hw => wsU_in (uw_X9 w hw)) (wsU_in fl_X9_13) rfl ?_
    refine AR.iload (pc := 111) (j := 1) dX9_council_111 rfl ?_
    refine AR.aload_n (pc := 113) (j := 0) dX9_council_113 rfl rfl ?_
    refine AR.getf (pc := 114) (ci := 9) (j := 16) (d := 8 + 2) (v := .ref 8) (T := TX9) dX9_council_114 rfl rfl rfl (by decide) (fun w hw => wsU_in (uw_X9 w hw)) (wsU_in fl_X9_31) rfl ?_
    refine AR.iload (pc := 117) (j := 1) dX9_council_117 rfl ?_
    obtain ⟨c4, h⟩ := gn_some h
    refine AR.iaload (pc := 119) dX9_council_119 rfl c4 ?_
    obtain ⟨c5, h⟩ := gn_some h
    refine AR.iastore (pc := 120) dX9_council_120 rfl c5 ?_
    refine AR.aload_n (pc := 121) (j := 0) dX9_council_121 rfl rfl ?_
    refine AR.getf (pc := 122) (ci := 9) (j := 10) (d := 6 + 2) (v := .ref 6) (T := TX9) dX9_council_122 rfl rfl rfl (by decide) (fun w hw => wsU_in (uw_X9 w hw)) (wsU_in fl_X9_25) rfl ?_
    refine AR.iload (pc := 125) (j := 1) dX9_council_125 rfl ?_
    refine AR.iload (pc := 127) (j := 1) dX9_council_127 rfl ?_
    obtain ⟨c6, h⟩ := gn_some h
    refine AR.iastore (pc := 129) dX9_council_129 rfl c6 ?_
    refine AR.iinc (pc := 130) (j := 1) (v := (x6 + 1)) (L2 := [(6, .int (x6 + 1)), (0, .ref 0)]) dX9_council_130 rfl rfl (by decide) rfl ?_
    refine AR.goto (pc := 133) (tgt := 84) dX9_council_133 (by decide) ?_
    exact AR.pick [1, 0] rfl (hk84 ((x6 + 1), (uI (uI (uI σ 1 (x6 : Int32).toNatClampNeg (σ.1 7 (x6 : Int32).toNatClampNeg)) 2 (x6 : Int32).toNatClampNeg ((uI σ 1 (x6 : Int32).toNatClampNeg (σ.1 7 (x6 : Int32).toNatClampNeg)).1 8 (x6 : Int32).toNatClampNeg)) 6 (x6 : Int32).toNatClampNeg x6)) r h)
theorem A9_council_84 {l : Launch} (p : Int32 × HS) (r : Int32 × HS) (h : f9_council_84 p = some r) : AR l RX9 cX9_council 7 (some .int) (wsU yX9_council cX9_council 7 (some .int)) rm9_council SM 84 [(0, .ref 0), (6, .int (p.1))] [] p.2 (some (.int r.1), r.2) := by
  unfold f9_council_84 at h
  exact wloop_run (body := fun k84 p => f9_council_84_b k84 p.1 p.2) (Q := fun p r => AR l RX9 cX9_council 7 (some .int) (wsU yX9_council cX9_council 7 (some .int)) rm9_council SM 84 [(0, .ref 0), (6, .int (p.1))] [] p.2 (some (.int r.1), r.2)) (fun k84 hk84 p r h => A9_council_84_b k84 p.1 hk84 p.2 r h) fuelN p r h
set_option maxHeartbeats 4000000 in
set_option maxRecDepth 100000 in
theorem A9_council {l : Launch} (x1 : Int32) (x2 : Int32) (x3 : Int32) (x4 : Int32) (σ : HS) (r : Int32 × HS) (h : f9_council x1 x2 x3 x4 σ = some r) : MA l yX9_council (wsU yX9_council cX9_council 7 (some .int)) rm9_council SM [.ref 0, .int x1, .int x2, .int x3, .int x4] σ (some (.int r.1), r.2) := by
  refine MA.of (L := [(0, .ref 0), (1, .int x1), (2, .int x2), (3, .int x3), (4, .int x4)]) pn_X9_council rfl (fun _ => Nat.le_of_ble_eq_true rfl) (fun _ => rfl) ?_
  unfold f9_council at h
  refine AR.aload_n (pc := 0) (j := 0) dX9_council_0 rfl rfl ?_
  refine AR.iload_n (pc := 1) (j := 1) dX9_council_1 rfl rfl ?_
  refine AR.iload_n (pc := 2) (j := 2) dX9_council_2 rfl rfl ?_
  refine AR.iload_n (pc := 3) (j := 3) dX9_council_3 rfl rfl ?_
  refine AR.iload (pc := 4) (j := 4) dX9_council_4 rfl ?_
  refine AR.i2l (pc := 6) dX9_council_6 ?_
  obtain ⟨r1, h1, h⟩ := bd_some h
  refine AR.callV (pc := 7) (As := [.int x1, .int x2, .int x3, .long ((x4 : Int32).toInt64)]) (st := []) (ci := 9) dX9_council_7 ⟨cd_X9_barred, im_X9_barred, se_X9_barred, ini_X9⟩ ml_X9_160 (A9_barred x1 x2 x3 ((x4 : Int32).toInt64) σ _ h1) ⟨rfl, pd_X9_barred⟩ ⟨Nat.le_of_ble_eq_true rfl, Nat.le_of_ble_eq_true rfl⟩ ⟨rfl, rfl⟩ rfl rfl rfl (Nat.le_of_ble_eq_true rfl) ?_
  refine AR.istore (pc := 10) (L2 := [(5, .int (r1.1)), (0, .ref 0), (1, .int x1), (2, .int x2), (3, .int x3), (4, .int x4)]) dX9_council_10 (by decide) rfl ?_
  refine AR.iload (pc := 12) (j := 0) dX9_council_12 rfl ?_
  refine AR.if_ge (pc := 14) (tgt := 20) dX9_council_14 (by decide) (fun c2 => ?_) (fun c2 => ?_)
  · replace h := ite_t c2 h
    refine AR.aload_n (pc := 20) (j := 1) dX9_council_20 rfl rfl ?_
    refine AR.bipush (pc := 21) (v := 100) dX9_council_21 (by decide) ?_
    refine AR.iload_n (pc := 23) (j := 2) dX9_council_23 rfl rfl ?_
    refine AR.imul (pc := 24) dX9_council_24 ?_
    refine AR.iload_n (pc := 25) (j := 4) dX9_council_25 rfl rfl ?_
    refine AR.iadd (pc := 26) dX9_council_26 ?_
    refine AR.iload (pc := 27) (j := 5) dX9_council_27 rfl ?_
    obtain ⟨r3, h3, h⟩ := bd_some h
    refine AR.callV (pc := 29) (As := [.int ((100 * x1) + x3), .int x4]) (st := []) (ci := 9) dX9_council_29 ⟨cd_X9_readsCouncil, im_X9_readsCouncil, se_X9_readsCouncil, ini_X9⟩ ml_X9_164 (A9_readsCouncil ((100 * x1) + x3) x4 (r1.2) _ h3) ⟨rfl, pd_X9_readsCouncil⟩ ⟨Nat.le_of_ble_eq_true rfl, Nat.le_of_ble_eq_true rfl⟩ ⟨rfl, rfl⟩ rfl rfl rfl (Nat.le_of_ble_eq_true rfl) ?_
    refine AR.if_ne (pc := 32) (tgt := 47) dX9_council_32 (by decide) (fun c4 => ?_) (fun c4 => ?_)
    · replace h := ite_f c4 h
      refine AR.aload_n (pc := 47) (j := 1) dX9_council_47 rfl rfl ?_
      refine AR.aload_n (pc := 48) (j := 1) dX9_council_48 rfl rfl ?_
      refine AR.getf (pc := 49) (ci := 9) (j := 14) (d := 0) (v := .int ((r3.2).1 0 14)) (T := TX9) dX9_council_49 rfl rfl rfl (by decide) (fun w hw => wsU_in (uw_X9 w hw)) (wsU_in fl_X9_130) rfl ?_
      refine AR.putI (pc := 52) (ci := 9) (j := 1) (T := TX9) (ty0 := tyX9) (ty := .int) dX9_council_52 rfl rfl rfl (by decide) (fun w hw => wsU_in (uw_X9 w hw)) tyX9_ok nmX9 (wsU_in fl_X9_113) rfl (by decide +kernel) rfl rfl ?_
      refine AR.aload_n (pc := 55) (j := 1) dX9_council_55 rfl rfl ?_
      refine AR.aload_n (pc := 56) (j := 1) dX9_council_56 rfl rfl ?_
      refine AR.getf (pc := 57) (ci := 9) (j := 12) (d := 0) (v := .int ((uI (r3.2) 0 1 ((r3.2).1 0 14)).1 0 12)) (T := TX9) dX9_council_57 rfl rfl rfl (by decide) (fun w hw => wsU_in (uw_X9 w hw)) (wsU_in fl_X9_151) rfl ?_
      refine AR.putI (pc := 60) (ci := 9) (j := 2) (T := TX9) (ty0 := tyX9) (ty := .int) dX9_council_60 rfl rfl rfl (by decide) (fun w hw => wsU_in (uw_X9 w hw)) tyX9_ok nmX9 (wsU_in fl_X9_167) rfl (by decide +kernel) rfl rfl ?_
      refine AR.aload_n (pc := 63) (j := 1) dX9_council_63 rfl rfl ?_
      refine AR.aload_n (pc := 64) (j := 1) dX9_council_64 rfl rfl ?_
      refine AR.getf (pc := 65) (ci := 9) (j := 13) (d := 0) (v := .int ((uI (uI (r3.2) 0 1 ((r3.2).1 0 14)) 0 2 ((uI (r3.2) 0 1 ((r3.2).1 0 14)).1 0 12)).1 0 13)) (T := TX9) dX9_council_65 rfl rfl rfl (by decide) (fun w hw => wsU_in (uw_X9 w hw)) (wsU_in fl_X9_154) rfl ?_
      refine AR.putI (pc := 68) (ci := 9) (j := 3) (T := TX9) (ty0 := tyX9) (ty := .int) dX9_council_68 rfl rfl rfl (by decide) (fun w hw => wsU_in (uw_X9 w hw)) tyX9_ok nmX9 (wsU_in fl_X9_170) rfl (by decide +kernel) rfl rfl ?_
      refine AR.aload_n (pc := 71) (j := 1) dX9_council_71 rfl rfl ?_
      refine AR.iconst (pc := 72) (v := 0) dX9_council_72 (by decide) ?_
      refine AR.putI (pc := 73) (ci := 9) (j := 4) (T := TX9) (ty0 := tyX9) (ty := .int) dX9_council_73 rfl rfl rfl (by decide) (fun w hw => wsU_in (uw_X9 w hw)) tyX9_ok nmX9 (wsU_in fl_X9_173) rfl (by decide +kernel) rfl rfl ?_
      refine AR.aload_n (pc := 76) (j := 1) dX9_council_76 rfl rfl ?_
      refine AR.iconst (pc := 77) (v := 0) dX9_council_77 (by decide) ?_
      refine AR.putI (pc := 78) (ci := 9) (j := 29) (T := TX9) (ty0 := tyX9) (ty := .int) dX9_council_78 rfl rfl rfl (by decide) (fun w hw => wsU_in (uw_X9 w hw)) tyX9_ok nmX9 (wsU_in fl_X9_176) rfl (by decide +kernel) rfl rfl ?_
      refine AR.iconst (pc := 81) (v := 0) dX9_council_81 (by decide) ?_
      refine AR.istore (pc := 82) (L2 := [(6, .int 0), (5, .int (r1.1)), (0, .ref 0), (1, .int x1), (2, .int x2), (3, .int x3), (4, .int x4)]) dX9_council_82 (by decide) rfl ?_
      exact AR.pick [2, 0] rfl (A9_council_84 (0, (uI (uI (uI (uI (uI (r3.2) 0 1 ((r3.2).1 0 14)) 0 2 ((uI (r3.2) 0 1 ((r3.2).1 0 14)).1 0 12)) 0 3 ((uI (uI (r3.2) 0 1 ((r3.2).1 0 14)) 0 2 ((uI (r3.2) 0 1 ((r3.2).1 0 14)).1 0 12)).1 0 13)) 0 4 0) 0 29 0)) r h)
    · replace h := ite_t c4 h
      refine AR.aload_n (pc := 35) (j := 1) dX9_council_35 rfl rfl ?_
      refine AR.bipush (pc := 36) (v := (-100)) dX9_council_36 (by decide) ?_
      refine AR.aload_n (pc := 38) (j := 1) dX9_council_38 rfl rfl ?_
      refine AR.getf (pc := 39) (ci := 9) (j := 11) (d := 0) (v := .int ((r3.2).1 0 11)) (T := TX9) dX9_council_39 rfl rfl rfl (by decide) (fun w hw => wsU_in (uw_X9 w hw)) (wsU_in fl_X9_119) rfl ?_
      refine AR.isub (pc := 42) dX9_council_42 ?_
      obtain ⟨r5, h5, h⟩ := bd_some h
      refine AR.callV (pc := 43) (As := [.int ((-100) - ((r3.2).1 0 11))]) (st := []) (ci := 9) dX9_council_43 ⟨cd_X9_refused, im_X9_refused, se_X9_refused, ini_X9⟩ ml_X9_96 (A9_refused ((-100) - ((r3.2).1 0 11)) (r3.2) _ h5) ⟨rfl, pd_X9_refused⟩ ⟨Nat.le_of_ble_eq_true rfl, Nat.le_of_ble_eq_true rfl⟩ ⟨rfl, rfl⟩ rfl rfl rfl (Nat.le_of_ble_eq_true rfl) ?_
      exact AR.iret (pc := 46) rfl dX9_council_46 (hrI (Option.some.inj h))
  · replace h := ite_f c2 h
    refine AR.iload (pc := 17) (j := 0) dX9_council_17 rfl ?_
    exact AR.iret (pc := 19) rfl dX9_council_19 (hrI (Option.some.inj h))
noncomputable def f9_placeOf_27 (k4 : Int32 × Int32 × HS → Option (Int32 × HS)) (x1 : Int32) (x3 : Int32) (z0 : Int32) (σ : HS) : Option (Int32 × HS) :=
  k4 (z0, (x3 + 1), σ)
noncomputable def f9_placeOf_4_b (k4 : Int32 × Int32 × HS → Option (Int32 × HS)) (x1 : Int32) (x2 : Int32) (x3 : Int32) (σ : HS) : Option (Int32 × HS) :=
  if ((σ.1 0 1) : Int32) ≤ x3 then
    some (x2, σ)
  else
    if (x3 : Int32) < 0 ∨ 5 ≤ (x3 : Int32).toNatClampNeg then none else
    if ((σ.1 6 (x3 : Int32).toNatClampNeg) : Int32) = x1 then
      f9_placeOf_27 k4 x1 x3 x3 σ
    else
      f9_placeOf_27 k4 x1 x3 x2 σ
noncomputable def f9_placeOf_4 (x1 : Int32) (p : Int32 × Int32 × HS) : Option (Int32 × HS) :=
  wloop (fun k4 p => f9_placeOf_4_b k4 x1 p.1 p.2.1 p.2.2) fuelN p
noncomputable def f9_placeOf (x1 : Int32) (σ : HS) : Option (Int32 × HS) :=
  f9_placeOf_4 x1 (0, 0, σ)
set_option maxHeartbeats 4000000 in
set_option maxRecDepth 100000 in
theorem A9_placeOf_27 {l : Launch} (k4 : Int32 × Int32 × HS → Option (Int32 × HS)) (x1 : Int32) (x3 : Int32) (z0 : Int32) (hk4 : ∀ (p : Int32 × Int32 × HS) (r : Int32 × HS), k4 p = some r → AR l RX9 cX9_placeOf 4 (some .int) (wsU yX9_placeOf cX9_placeOf 4 (some .int)) rm9_placeOf SM 4 [(0, .ref 0), (1, .int x1), (2, .int (p.1)), (3, .int (p.2.1))] [] p.2.2 (some (.int r.1), r.2)) (σ : HS) (r : Int32 × HS) (h : f9_placeOf_27 k4 x1 x3 z0 σ = some r) : AR l RX9 cX9_placeOf 4 (some .int) (wsU yX9_placeOf cX9_placeOf 4 (some .int)) rm9_placeOf SM 27 [(0, .ref 0), (1, .int x1), (3, .int x3)] [.int z0] σ (some (.int r.1), r.2) := by
  unfold f9_placeOf_27 at h
  refine AR.istore_n (pc := 27) (L2 := [(2, .int z0), (0, .ref 0), (1, .int x1), (3, .int x3)]) dX9_placeOf_27 rfl (by decide) rfl ?_
  refine AR.iinc (pc := 28) (j := 3) (v := (x3 + 1)) (L2 := [(3, .int (x3 + 1)), (2, .int z0), (0, .ref 0), (1, .int x1)]) dX9_placeOf_28 rfl rfl (by decide) rfl ?_
  refine AR.goto (pc := 31) (tgt := 4) dX9_placeOf_31 (by decide) ?_
  exact AR.pick [2, 3, 1, 0] rfl (hk4 (z0, (x3 + 1), σ) r h)
set_option maxHeartbeats 4000000 in
set_option maxRecDepth 100000 in
theorem A9_placeOf_4_b {l : Launch} (k4 : Int32 × Int32 × HS → Option (Int32 × HS)) (x1 : Int32) (x2 : Int32) (x3 : Int32) (hk4 : ∀ (p : Int32 × Int32 × HS) (r : Int32 × HS), k4 p = some r → AR l RX9 cX9_placeOf 4 (some .int) (wsU yX9_placeOf cX9_placeOf 4 (some .int)) rm9_placeOf SM 4 [(0, .ref 0), (1, .int x1), (2, .int (p.1)), (3, .int (p.2.1))] [] p.2.2 (some (.int r.1), r.2)) (σ : HS) (r : Int32 × HS) (h : f9_placeOf_4_b k4 x1 x2 x3 σ = some r) : AR l RX9 cX9_placeOf 4 (some .int) (wsU yX9_placeOf cX9_placeOf 4 (some .int)) rm9_placeOf SM 4 [(0, .ref 0), (1, .int x1), (2, .int x2), (3, .int x3)] [] σ (some (.int r.1), r.2) := by
  unfold f9_placeOf_4_b at h
  refine AR.iload_n (pc := 4) (j := 3) dX9_placeOf_4 rfl rfl ?_
  refine AR.aload_n (pc := 5) (j := 0) dX9_placeOf_5 rfl rfl ?_
  refine AR.getf (pc := 6) (ci := 9) (j := 1) (d := 0) (v := .int (σ.1 0 1)) (T := TX9) dX9_placeOf_6 rfl rfl rfl (by decide) (fun w hw => wsU_in (uw_X9 w hw)) (wsU_in fl_X9_113) rfl ?_
  refine AR.icmp_ge (pc := 9) (tgt := 34) dX9_placeOf_9 (by decide) (fun c1 => ?_) (fun c1 => ?_)
  · replace h := ite_t c1 h
    refine AR.iload_n (pc := 34) (j := 2) dX9_placeOf_34 rfl rfl ?_
    exact AR.iret (pc := 35) rfl dX9_placeOf_35 (hrI (Option.some.inj h))
  · replace h := ite_f c1 h
    refine AR.aload_n (pc := 12) (j := 0) dX9_placeOf_12 rfl rfl ?_
    refine AR.getf (pc := 13) (ci := 9) (j := 10) (d := 6 + 2) (v := .ref 6) (T := TX9) dX9_placeOf_13 rfl rfl rfl (by decide) (fun w hw => wsU_in (uw_X9 w hw)) (wsU_in fl_X9_25) rfl ?_
    refine AR.iload_n (pc := 16) (j := 3) dX9_placeOf_16 rfl rfl ?_
    obtain ⟨c2, h⟩ := gn_some h
    refine AR.iaload (pc := 17) dX9_placeOf_17 rfl c2 ?_
    refine AR.iload_n (pc := 18) (j := 1) dX9_placeOf_18 rfl rfl ?_
    refine AR.icmp_ne (pc := 19) (tgt := 26) dX9_placeOf_19 (by decide) (fun c3 => ?_) (fun c3 => ?_)
    · replace h := ite_f c3 h
      refine AR.iload_n (pc := 26) (j := 2) dX9_placeOf_26 rfl rfl ?_
      exact AR.pick [0, 1, 3] rfl (A9_placeOf_27 k4 x1 x3 x2 hk4 σ r h)
    · replace h := ite_t c3 h
      refine AR.iload_n (pc := 22) (j := 3) dX9_placeOf_22 rfl rfl ?_
      refine AR.goto (pc := 23) (tgt := 27) dX9_placeOf_23 (by decide) ?_
      exact AR.pick [0, 1, 3] rfl (A9_placeOf_27 k4 x1 x3 x3 hk4 σ r h)
theorem A9_placeOf_4 {l : Launch} (x1 : Int32) (p : Int32 × Int32 × HS) (r : Int32 × HS) (h : f9_placeOf_4 x1 p = some r) : AR l RX9 cX9_placeOf 4 (some .int) (wsU yX9_placeOf cX9_placeOf 4 (some .int)) rm9_placeOf SM 4 [(0, .ref 0), (1, .int x1), (2, .int (p.1)), (3, .int (p.2.1))] [] p.2.2 (some (.int r.1), r.2) := by
  unfold f9_placeOf_4 at h
  exact wloop_run (body := fun k4 p => f9_placeOf_4_b k4 x1 p.1 p.2.1 p.2.2) (Q := fun p r => AR l RX9 cX9_placeOf 4 (some .int) (wsU yX9_placeOf cX9_placeOf 4 (some .int)) rm9_placeOf SM 4 [(0, .ref 0), (1, .int x1), (2, .int (p.1)), (3, .int (p.2.1))] [] p.2.2 (some (.int r.1), r.2)) (fun k4 hk4 p r h => A9_placeOf_4_b k4 x1 p.1 p.2.1 hk4 p.2.2 r h) fuelN p r h
set_option maxHeartbeats 4000000 in
set_option maxRecDepth 100000 in
theorem A9_placeOf {l : Launch} (x1 : Int32) (σ : HS) (r : Int32 × HS) (h : f9_placeOf x1 σ = some r) : MA l yX9_placeOf (wsU yX9_placeOf cX9_placeOf 4 (some .int)) rm9_placeOf SM [.ref 0, .int x1] σ (some (.int r.1), r.2) := by
  refine MA.of (L := [(0, .ref 0), (1, .int x1)]) pn_X9_placeOf rfl (fun _ => Nat.le_of_ble_eq_true rfl) (fun _ => rfl) ?_
  unfold f9_placeOf at h
  refine AR.iconst (pc := 0) (v := 0) dX9_placeOf_0 (by decide) ?_
  refine AR.istore_n (pc := 1) (L2 := [(2, .int 0), (0, .ref 0), (1, .int x1)]) dX9_placeOf_1 rfl (by decide) rfl ?_
  refine AR.iconst (pc := 2) (v := 0) dX9_placeOf_2 (by decide) ?_
  refine AR.istore_n (pc := 3) (L2 := [(3, .int 0), (2, .int 0), (0, .ref 0), (1, .int x1)]) dX9_placeOf_3 rfl (by decide) rfl ?_
  exact AR.pick [2, 3, 1, 0] rfl (A9_placeOf_4 x1 (0, 0, σ) r h)
noncomputable def f9_ofSpeaker (x1 : Int32) (x2 : Int32) (σ : HS) : Option (Int32 × HS) :=
  bd (f9_noSpeaker x1 σ) fun r1 =>
  if (r1.1 : Int32) = 0 then
    if (x2 : Int32) = 0 then
      if (x1 : Int32) < 0 ∨ 5 ≤ (x1 : Int32).toNatClampNeg then none else
      some (((r1.2).1 1 (x1 : Int32).toNatClampNeg), r1.2)
    else
      if (x2 : Int32) = 1 then
        if (x1 : Int32) < 0 ∨ 5 ≤ (x1 : Int32).toNatClampNeg then none else
        some (((r1.2).1 2 (x1 : Int32).toNatClampNeg), r1.2)
      else
        if (x2 : Int32) = 2 then
          bd (f9_placeOf x1 (r1.2)) fun r6 =>
          some (r6.1, r6.2)
        else
          some ((-2), r1.2)
  else
    some ((-1), r1.2)
set_option maxHeartbeats 4000000 in
set_option maxRecDepth 100000 in
theorem A9_ofSpeaker {l : Launch} (x1 : Int32) (x2 : Int32) (σ : HS) (r : Int32 × HS) (h : f9_ofSpeaker x1 x2 σ = some r) : MA l yX9_ofSpeaker (wsU yX9_ofSpeaker cX9_ofSpeaker 3 (some .int)) rm9_ofSpeaker SM [.ref 0, .int x1, .int x2] σ (some (.int r.1), r.2) := by
  refine MA.of (L := [(0, .ref 0), (1, .int x1), (2, .int x2)]) pn_X9_ofSpeaker rfl (fun _ => Nat.le_of_ble_eq_true rfl) (fun _ => rfl) ?_
  unfold f9_ofSpeaker at h
  refine AR.aload_n (pc := 0) (j := 0) dX9_ofSpeaker_0 rfl rfl ?_
  refine AR.iload_n (pc := 1) (j := 1) dX9_ofSpeaker_1 rfl rfl ?_
  obtain ⟨r1, h1, h⟩ := bd_some h
  refine AR.callV (pc := 2) (As := [.int x1]) (st := []) (ci := 9) dX9_ofSpeaker_2 ⟨cd_X9_noSpeaker, im_X9_noSpeaker, se_X9_noSpeaker, ini_X9⟩ ml_X9_116 (A9_noSpeaker x1 σ _ h1) ⟨rfl, pd_X9_noSpeaker⟩ ⟨Nat.le_of_ble_eq_true rfl, Nat.le_of_ble_eq_true rfl⟩ ⟨rfl, rfl⟩ rfl rfl rfl (Nat.le_of_ble_eq_true rfl) ?_
  refine AR.if_eq (pc := 5) (tgt := 10) dX9_ofSpeaker_5 (by decide) (fun c2 => ?_) (fun c2 => ?_)
  · replace h := ite_t c2 h
    refine AR.iload_n (pc := 10) (j := 2) dX9_ofSpeaker_10 rfl rfl ?_
    refine AR.if_ne (pc := 11) (tgt := 23) dX9_ofSpeaker_11 (by decide) (fun c3 => ?_) (fun c3 => ?_)
    · replace h := ite_f c3 h
      refine AR.iload_n (pc := 23) (j := 2) dX9_ofSpeaker_23 rfl rfl ?_
      refine AR.iconst (pc := 24) (v := 1) dX9_ofSpeaker_24 (by decide) ?_
      refine AR.icmp_ne (pc := 25) (tgt := 37) dX9_ofSpeaker_25 (by decide) (fun c4 => ?_) (fun c4 => ?_)
      · replace h := ite_f c4 h
        refine AR.iload_n (pc := 37) (j := 2) dX9_ofSpeaker_37 rfl rfl ?_
        refine AR.iconst (pc := 38) (v := 2) dX9_ofSpeaker_38 (by decide) ?_
        refine AR.icmp_ne (pc := 39) (tgt := 50) dX9_ofSpeaker_39 (by decide) (fun c5 => ?_) (fun c5 => ?_)
        · replace h := ite_f c5 h
          refine AR.bipush (pc := 50) (v := (-2)) dX9_ofSpeaker_50 (by decide) ?_
          exact AR.iret (pc := 52) rfl dX9_ofSpeaker_52 (hrI (Option.some.inj h))
        · replace h := ite_t c5 h
          refine AR.aload_n (pc := 42) (j := 0) dX9_ofSpeaker_42 rfl rfl ?_
          refine AR.iload_n (pc := 43) (j := 1) dX9_ofSpeaker_43 rfl rfl ?_
          obtain ⟨r6, h6, h⟩ := bd_some h
          refine AR.callV (pc := 44) (As := [.int x1]) (st := []) (ci := 9) dX9_ofSpeaker_44 ⟨cd_X9_placeOf, im_X9_placeOf, se_X9_placeOf, ini_X9⟩ ml_X9_179 (A9_placeOf x1 (r1.2) _ h6) ⟨rfl, pd_X9_placeOf⟩ ⟨Nat.le_of_ble_eq_true rfl, Nat.le_of_ble_eq_true rfl⟩ ⟨rfl, rfl⟩ rfl rfl rfl (Nat.le_of_ble_eq_true rfl) ?_
          refine AR.goto (pc := 47) (tgt := 52) dX9_ofSpeaker_47 (by decide) ?_
          exact AR.iret (pc := 52) rfl dX9_ofSpeaker_52 (hrI (Option.some.inj h))
      · replace h := ite_t c4 h
        refine AR.aload_n (pc := 28) (j := 0) dX9_ofSpeaker_28 rfl rfl ?_
        refine AR.getf (pc := 29) (ci := 9) (j := 6) (d := 2 + 2) (v := .ref 2) (T := TX9) dX9_ofSpeaker_29 rfl rfl rfl (by decide) (fun w hw => wsU_in (uw_X9 w hw)) (wsU_in fl_X9_13) rfl ?_
        refine AR.iload_n (pc := 32) (j := 1) dX9_ofSpeaker_32 rfl rfl ?_
        obtain ⟨c7, h⟩ := gn_some h
        refine AR.iaload (pc := 33) dX9_ofSpeaker_33 rfl c7 ?_
        refine AR.goto (pc := 34) (tgt := 52) dX9_ofSpeaker_34 (by decide) ?_
        exact AR.iret (pc := 52) rfl dX9_ofSpeaker_52 (hrI (Option.some.inj h))
    · replace h := ite_t c3 h
      refine AR.aload_n (pc := 14) (j := 0) dX9_ofSpeaker_14 rfl rfl ?_
      refine AR.getf (pc := 15) (ci := 9) (j := 5) (d := 1 + 2) (v := .ref 1) (T := TX9) dX9_ofSpeaker_15 rfl rfl rfl (by decide) (fun w hw => wsU_in (uw_X9 w hw)) (wsU_in fl_X9_7) rfl ?_
      refine AR.iload_n (pc := 18) (j := 1) dX9_ofSpeaker_18 rfl rfl ?_
      obtain ⟨c8, h⟩ := gn_some h
      refine AR.iaload (pc := 19) dX9_ofSpeaker_19 rfl c8 ?_
      refine AR.goto (pc := 20) (tgt := 52) dX9_ofSpeaker_20 (by decide) ?_
      exact AR.iret (pc := 52) rfl dX9_ofSpeaker_52 (hrI (Option.some.inj h))
  · replace h := ite_f c2 h
    refine AR.iconst (pc := 8) (v := (-1)) dX9_ofSpeaker_8 (by decide) ?_
    exact AR.iret (pc := 9) rfl dX9_ofSpeaker_9 (hrI (Option.some.inj h))
noncomputable def f9_ofWord (x1 : Int32) (x2 : Int32) (x3 : Int32) (σ : HS) : Option (Int32 × HS) :=
  bd (f9_noWord x1 x2 σ) fun r1 =>
  if (r1.1 : Int32) = 0 then
    if (x3 : Int32) = 0 then
      if (((3 * x1) + x2) : Int32) < 0 ∨ 15 ≤ (((3 * x1) + x2) : Int32).toNatClampNeg then none else
      some (((r1.2).1 3 (((3 * x1) + x2) : Int32).toNatClampNeg), r1.2)
    else
      if (x3 : Int32) = 1 then
        if (((3 * x1) + x2) : Int32) < 0 ∨ 15 ≤ (((3 * x1) + x2) : Int32).toNatClampNeg then none else
        some (((r1.2).1 4 (((3 * x1) + x2) : Int32).toNatClampNeg), r1.2)
      else
        if (x3 : Int32) = 2 then
          if (((3 * x1) + x2) : Int32) < 0 ∨ 15 ≤ (((3 * x1) + x2) : Int32).toNatClampNeg then none else
          some (((r1.2).1 5 (((3 * x1) + x2) : Int32).toNatClampNeg), r1.2)
        else
          some ((-2), r1.2)
  else
    some ((-1), r1.2)
set_option maxHeartbeats 4000000 in
set_option maxRecDepth 100000 in
theorem A9_ofWord {l : Launch} (x1 : Int32) (x2 : Int32) (x3 : Int32) (σ : HS) (r : Int32 × HS) (h : f9_ofWord x1 x2 x3 σ = some r) : MA l yX9_ofWord (wsU yX9_ofWord cX9_ofWord 5 (some .int)) rm9_ofWord SM [.ref 0, .int x1, .int x2, .int x3] σ (some (.int r.1), r.2) := by
  refine MA.of (L := [(0, .ref 0), (1, .int x1), (2, .int x2), (3, .int x3)]) pn_X9_ofWord rfl (fun _ => Nat.le_of_ble_eq_true rfl) (fun _ => rfl) ?_
  unfold f9_ofWord at h
  refine AR.aload_n (pc := 0) (j := 0) dX9_ofWord_0 rfl rfl ?_
  refine AR.iload_n (pc := 1) (j := 1) dX9_ofWord_1 rfl rfl ?_
  refine AR.iload_n (pc := 2) (j := 2) dX9_ofWord_2 rfl rfl ?_
  obtain ⟨r1, h1, h⟩ := bd_some h
  refine AR.callV (pc := 3) (As := [.int x1, .int x2]) (st := []) (ci := 9) dX9_ofWord_3 ⟨cd_X9_noWord, im_X9_noWord, se_X9_noWord, ini_X9⟩ ml_X9_182 (A9_noWord x1 x2 σ _ h1) ⟨rfl, pd_X9_noWord⟩ ⟨Nat.le_of_ble_eq_true rfl, Nat.le_of_ble_eq_true rfl⟩ ⟨rfl, rfl⟩ rfl rfl rfl (Nat.le_of_ble_eq_true rfl) ?_
  refine AR.if_eq (pc := 6) (tgt := 11) dX9_ofWord_6 (by decide) (fun c2 => ?_) (fun c2 => ?_)
  · replace h := ite_t c2 h
    refine AR.iconst (pc := 11) (v := 3) dX9_ofWord_11 (by decide) ?_
    refine AR.iload_n (pc := 12) (j := 1) dX9_ofWord_12 rfl rfl ?_
    refine AR.imul (pc := 13) dX9_ofWord_13 ?_
    refine AR.iload_n (pc := 14) (j := 2) dX9_ofWord_14 rfl rfl ?_
    refine AR.iadd (pc := 15) dX9_ofWord_15 ?_
    refine AR.istore (pc := 16) (L2 := [(4, .int ((3 * x1) + x2)), (0, .ref 0), (1, .int x1), (2, .int x2), (3, .int x3)]) dX9_ofWord_16 (by decide) rfl ?_
    refine AR.iload_n (pc := 18) (j := 4) dX9_ofWord_18 rfl rfl ?_
    refine AR.if_ne (pc := 19) (tgt := 32) dX9_ofWord_19 (by decide) (fun c3 => ?_) (fun c3 => ?_)
    · replace h := ite_f c3 h
      refine AR.iload_n (pc := 32) (j := 4) dX9_ofWord_32 rfl rfl ?_
      refine AR.iconst (pc := 33) (v := 1) dX9_ofWord_33 (by decide) ?_
      refine AR.icmp_ne (pc := 34) (tgt := 47) dX9_ofWord_34 (by decide) (fun c4 => ?_) (fun c4 => ?_)
      · replace h := ite_f c4 h
        refine AR.iload_n (pc := 47) (j := 4) dX9_ofWord_47 rfl rfl ?_
        refine AR.iconst (pc := 48) (v := 2) dX9_ofWord_48 (by decide) ?_
        refine AR.icmp_ne (pc := 49) (tgt := 62) dX9_ofWord_49 (by decide) (fun c5 => ?_) (fun c5 => ?_)
        · replace h := ite_f c5 h
          refine AR.bipush (pc := 62) (v := (-2)) dX9_ofWord_62 (by decide) ?_
          exact AR.iret (pc := 64) rfl dX9_ofWord_64 (hrI (Option.some.inj h))
        · replace h := ite_t c5 h
          refine AR.aload_n (pc := 52) (j := 1) dX9_ofWord_52 rfl rfl ?_
          refine AR.getf (pc := 53) (ci := 9) (j := 9) (d := 5 + 2) (v := .ref 5) (T := TX9) dX9_ofWord_53 rfl rfl rfl (by decide) (fun w hw => wsU_in (uw_X9 w hw)) (wsU_in fl_X9_22) rfl ?_
          refine AR.iload (pc := 56) (j := 0) dX9_ofWord_56 rfl ?_
          obtain ⟨c6, h⟩ := gn_some h
          refine AR.iaload (pc := 58) dX9_ofWord_58 rfl c6 ?_
          refine AR.goto (pc := 59) (tgt := 64) dX9_ofWord_59 (by decide) ?_
          exact AR.iret (pc := 64) rfl dX9_ofWord_64 (hrI (Option.some.inj h))
      · replace h := ite_t c4 h
        refine AR.aload_n (pc := 37) (j := 1) dX9_ofWord_37 rfl rfl ?_
        refine AR.getf (pc := 38) (ci := 9) (j := 8) (d := 4 + 2) (v := .ref 4) (T := TX9) dX9_ofWord_38 rfl rfl rfl (by decide) (fun w hw => wsU_in (uw_X9 w hw)) (wsU_in fl_X9_19) rfl ?_
        refine AR.iload (pc := 41) (j := 0) dX9_ofWord_41 rfl ?_
        obtain ⟨c7, h⟩ := gn_some h
        refine AR.iaload (pc := 43) dX9_ofWord_43 rfl c7 ?_
        refine AR.goto (pc := 44) (tgt := 64) dX9_ofWord_44 (by decide) ?_
        exact AR.iret (pc := 64) rfl dX9_ofWord_64 (hrI (Option.some.inj h))
    · replace h := ite_t c3 h
      refine AR.aload_n (pc := 22) (j := 1) dX9_ofWord_22 rfl rfl ?_
      refine AR.getf (pc := 23) (ci := 9) (j := 7) (d := 3 + 2) (v := .ref 3) (T := TX9) dX9_ofWord_23 rfl rfl rfl (by decide) (fun w hw => wsU_in (uw_X9 w hw)) (wsU_in fl_X9_16) rfl ?_
      refine AR.iload (pc := 26) (j := 0) dX9_ofWord_26 rfl ?_
      obtain ⟨c8, h⟩ := gn_some h
      refine AR.iaload (pc := 28) dX9_ofWord_28 rfl c8 ?_
      refine AR.goto (pc := 29) (tgt := 64) dX9_ofWord_29 (by decide) ?_
      exact AR.iret (pc := 64) rfl dX9_ofWord_64 (hrI (Option.some.inj h))
  · replace h := ite_f c2 h
    refine AR.iconst (pc := 9) (v := (-1)) dX9_ofWord_9 (by decide) ?_
    exact AR.iret (pc := 10) rfl dX9_ofWord_10 (hrI (Option.some.inj h))
noncomputable def f9_law (x1 : Int32) (σ : HS) : Option (Int32 × HS) :=
  bd (f9_in ((x1 : Int32).toInt64) 0 3 σ) fun r1 =>
  if (r1.1 : Int32) = 0 then
    some ((-2), r1.2)
  else
    if (((r1.2).1 0 1) : Int32) = 0 then
      some ((-3), r1.2)
    else
      some (((r1.2).1 0 4), (uI (uI (r1.2) 0 4 x1) 0 29 0))
set_option maxHeartbeats 4000000 in
set_option maxRecDepth 100000 in
theorem A9_law {l : Launch} (x1 : Int32) (σ : HS) (r : Int32 × HS) (h : f9_law x1 σ = some r) : MA l yX9_law (wsU yX9_law cX9_law 3 (some .int)) rm9_law SM [.ref 0, .int x1] σ (some (.int r.1), r.2) := by
  refine MA.of (L := [(0, .ref 0), (1, .int x1)]) pn_X9_law rfl (fun _ => Nat.le_of_ble_eq_true rfl) (fun _ => rfl) ?_
  unfold f9_law at h
  refine AR.iload_n (pc := 0) (j := 1) dX9_law_0 rfl rfl ?_
  refine AR.i2l (pc := 1) dX9_law_1 ?_
  refine AR.lconst (pc := 2) (v := 0) dX9_law_2 (by decide) ?_
  refine AR.ldc2 (pc := 3) (v := 3) dX9_law_3 (wsU_in kl_X9_185) ?_
  obtain ⟨r1, h1, h⟩ := bd_some h
  refine AR.callS (pc := 6) (As := [.long ((x1 : Int32).toInt64), .long 0, .long 3]) (st := []) dX9_law_6 ⟨cd_X9_in, sm_X9_in, ini_X9⟩ ml_X9_102 (A9_in ((x1 : Int32).toInt64) 0 3 σ _ h1) ⟨rfl, pd_X9_in⟩ ⟨Nat.le_of_ble_eq_true rfl, Nat.le_of_ble_eq_true rfl⟩ ⟨rfl, rfl⟩ rfl (Nat.le_of_ble_eq_true rfl) ?_
  refine AR.if_ne (pc := 9) (tgt := 15) dX9_law_9 (by decide) (fun c2 => ?_) (fun c2 => ?_)
  · replace h := ite_f c2 h
    refine AR.aload_n (pc := 15) (j := 0) dX9_law_15 rfl rfl ?_
    refine AR.getf (pc := 16) (ci := 9) (j := 1) (d := 0) (v := .int ((r1.2).1 0 1)) (T := TX9) dX9_law_16 rfl rfl rfl (by decide) (fun w hw => wsU_in (uw_X9 w hw)) (wsU_in fl_X9_113) rfl ?_
    refine AR.if_ne (pc := 19) (tgt := 25) dX9_law_19 (by decide) (fun c3 => ?_) (fun c3 => ?_)
    · replace h := ite_f c3 h
      refine AR.aload_n (pc := 25) (j := 0) dX9_law_25 rfl rfl ?_
      refine AR.getf (pc := 26) (ci := 9) (j := 4) (d := 0) (v := .int ((r1.2).1 0 4)) (T := TX9) dX9_law_26 rfl rfl rfl (by decide) (fun w hw => wsU_in (uw_X9 w hw)) (wsU_in fl_X9_173) rfl ?_
      refine AR.istore_n (pc := 29) (L2 := [(2, .int ((r1.2).1 0 4)), (0, .ref 0), (1, .int x1)]) dX9_law_29 rfl (by decide) rfl ?_
      refine AR.aload_n (pc := 30) (j := 1) dX9_law_30 rfl rfl ?_
      refine AR.iload_n (pc := 31) (j := 2) dX9_law_31 rfl rfl ?_
      refine AR.putI (pc := 32) (ci := 9) (j := 4) (T := TX9) (ty0 := tyX9) (ty := .int) dX9_law_32 rfl rfl rfl (by decide) (fun w hw => wsU_in (uw_X9 w hw)) tyX9_ok nmX9 (wsU_in fl_X9_173) rfl (by decide +kernel) rfl rfl ?_
      refine AR.aload_n (pc := 35) (j := 1) dX9_law_35 rfl rfl ?_
      refine AR.iconst (pc := 36) (v := 0) dX9_law_36 (by decide) ?_
      refine AR.putI (pc := 37) (ci := 9) (j := 29) (T := TX9) (ty0 := tyX9) (ty := .int) dX9_law_37 rfl rfl rfl (by decide) (fun w hw => wsU_in (uw_X9 w hw)) tyX9_ok nmX9 (wsU_in fl_X9_176) rfl (by decide +kernel) rfl rfl ?_
      refine AR.iload_n (pc := 40) (j := 0) dX9_law_40 rfl rfl ?_
      exact AR.iret (pc := 41) rfl dX9_law_41 (hrI (Option.some.inj h))
    · replace h := ite_t c3 h
      refine AR.bipush (pc := 22) (v := (-3)) dX9_law_22 (by decide) ?_
      exact AR.iret (pc := 24) rfl dX9_law_24 (hrI (Option.some.inj h))
  · replace h := ite_t c2 h
    refine AR.bipush (pc := 12) (v := (-2)) dX9_law_12 (by decide) ?_
    exact AR.iret (pc := 14) rfl dX9_law_14 (hrI (Option.some.inj h))
noncomputable def f9_swap (x1 : Int32) (x2 : Int32) (σ : HS) : Option (Int32 × HS) :=
  bd (f9_noSpeaker x1 σ) fun r1 =>
  if (r1.1 : Int32) = 0 then
    bd (f9_noSpeaker x2 (r1.2)) fun r3 =>
    if (r3.1 : Int32) = 0 then
      bd (f9_placeOf x1 (r3.2)) fun r5 =>
      bd (f9_placeOf x2 (r5.2)) fun r6 =>
      if (r5.1 : Int32) < 0 ∨ 5 ≤ (r5.1 : Int32).toNatClampNeg then none else
      if (r6.1 : Int32) < 0 ∨ 5 ≤ (r6.1 : Int32).toNatClampNeg then none else
      some (1, (uI (uI (uI (r6.2) 6 (r5.1 : Int32).toNatClampNeg x2) 6 (r6.1 : Int32).toNatClampNeg x1) 0 29 0))
    else
      some ((-1), r3.2)
  else
    some ((-1), r1.2)
set_option maxHeartbeats 4000000 in
set_option maxRecDepth 100000 in
theorem A9_swap {l : Launch} (x1 : Int32) (x2 : Int32) (σ : HS) (r : Int32 × HS) (h : f9_swap x1 x2 σ = some r) : MA l yX9_swap (wsU yX9_swap cX9_swap 5 (some .int)) rm9_swap SM [.ref 0, .int x1, .int x2] σ (some (.int r.1), r.2) := by
  refine MA.of (L := [(0, .ref 0), (1, .int x1), (2, .int x2)]) pn_X9_swap rfl (fun _ => Nat.le_of_ble_eq_true rfl) (fun _ => rfl) ?_
  unfold f9_swap at h
  refine AR.aload_n (pc := 0) (j := 0) dX9_swap_0 rfl rfl ?_
  refine AR.iload_n (pc := 1) (j := 1) dX9_swap_1 rfl rfl ?_
  obtain ⟨r1, h1, h⟩ := bd_some h
  refine AR.callV (pc := 2) (As := [.int x1]) (st := []) (ci := 9) dX9_swap_2 ⟨cd_X9_noSpeaker, im_X9_noSpeaker, se_X9_noSpeaker, ini_X9⟩ ml_X9_116 (A9_noSpeaker x1 σ _ h1) ⟨rfl, pd_X9_noSpeaker⟩ ⟨Nat.le_of_ble_eq_true rfl, Nat.le_of_ble_eq_true rfl⟩ ⟨rfl, rfl⟩ rfl rfl rfl (Nat.le_of_ble_eq_true rfl) ?_
  refine AR.if_ne (pc := 5) (tgt := 16) dX9_swap_5 (by decide) (fun c2 => ?_) (fun c2 => ?_)
  · replace h := ite_f c2 h
    refine AR.iconst (pc := 16) (v := (-1)) dX9_swap_16 (by decide) ?_
    exact AR.iret (pc := 17) rfl dX9_swap_17 (hrI (Option.some.inj h))
  · replace h := ite_t c2 h
    refine AR.aload_n (pc := 8) (j := 0) dX9_swap_8 rfl rfl ?_
    refine AR.iload_n (pc := 9) (j := 2) dX9_swap_9 rfl rfl ?_
    obtain ⟨r3, h3, h⟩ := bd_some h
    refine AR.callV (pc := 10) (As := [.int x2]) (st := []) (ci := 9) dX9_swap_10 ⟨cd_X9_noSpeaker, im_X9_noSpeaker, se_X9_noSpeaker, ini_X9⟩ ml_X9_116 (A9_noSpeaker x2 (r1.2) _ h3) ⟨rfl, pd_X9_noSpeaker⟩ ⟨Nat.le_of_ble_eq_true rfl, Nat.le_of_ble_eq_true rfl⟩ ⟨rfl, rfl⟩ rfl rfl rfl (Nat.le_of_ble_eq_true rfl) ?_
    refine AR.if_eq (pc := 13) (tgt := 18) dX9_swap_13 (by decide) (fun c4 => ?_) (fun c4 => ?_)
    · replace h := ite_t c4 h
      refine AR.aload_n (pc := 18) (j := 0) dX9_swap_18 rfl rfl ?_
      refine AR.iload_n (pc := 19) (j := 1) dX9_swap_19 rfl rfl ?_
      obtain ⟨r5, h5, h⟩ := bd_some h
      refine AR.callV (pc := 20) (As := [.int x1]) (st := []) (ci := 9) dX9_swap_20 ⟨cd_X9_placeOf, im_X9_placeOf, se_X9_placeOf, ini_X9⟩ ml_X9_179 (A9_placeOf x1 (r3.2) _ h5) ⟨rfl, pd_X9_placeOf⟩ ⟨Nat.le_of_ble_eq_true rfl, Nat.le_of_ble_eq_true rfl⟩ ⟨rfl, rfl⟩ rfl rfl rfl (Nat.le_of_ble_eq_true rfl) ?_
      refine AR.istore_n (pc := 23) (L2 := [(3, .int (r5.1)), (0, .ref 0), (1, .int x1), (2, .int x2)]) dX9_swap_23 rfl (by decide) rfl ?_
      refine AR.aload_n (pc := 24) (j := 1) dX9_swap_24 rfl rfl ?_
      refine AR.iload_n (pc := 25) (j := 3) dX9_swap_25 rfl rfl ?_
      obtain ⟨r6, h6, h⟩ := bd_some h
      refine AR.callV (pc := 26) (As := [.int x2]) (st := []) (ci := 9) dX9_swap_26 ⟨cd_X9_placeOf, im_X9_placeOf, se_X9_placeOf, ini_X9⟩ ml_X9_179 (A9_placeOf x2 (r5.2) _ h6) ⟨rfl, pd_X9_placeOf⟩ ⟨Nat.le_of_ble_eq_true rfl, Nat.le_of_ble_eq_true rfl⟩ ⟨rfl, rfl⟩ rfl rfl rfl (Nat.le_of_ble_eq_true rfl) ?_
      refine AR.istore (pc := 29) (L2 := [(4, .int (r6.1)), (3, .int (r5.1)), (0, .ref 0), (1, .int x1), (2, .int x2)]) dX9_swap_29 (by decide) rfl ?_
      refine AR.aload_n (pc := 31) (j := 2) dX9_swap_31 rfl rfl ?_
      refine AR.getf (pc := 32) (ci := 9) (j := 10) (d := 6 + 2) (v := .ref 6) (T := TX9) dX9_swap_32 rfl rfl rfl (by decide) (fun w hw => wsU_in (uw_X9 w hw)) (wsU_in fl_X9_25) rfl ?_
      refine AR.iload_n (pc := 35) (j := 1) dX9_swap_35 rfl rfl ?_
      refine AR.iload_n (pc := 36) (j := 4) dX9_swap_36 rfl rfl ?_
      obtain ⟨c7, h⟩ := gn_some h
      refine AR.iastore (pc := 37) dX9_swap_37 rfl c7 ?_
      refine AR.aload_n (pc := 38) (j := 2) dX9_swap_38 rfl rfl ?_
      refine AR.getf (pc := 39) (ci := 9) (j := 10) (d := 6 + 2) (v := .ref 6) (T := TX9) dX9_swap_39 rfl rfl rfl (by decide) (fun w hw => wsU_in (uw_X9 w hw)) (wsU_in fl_X9_25) rfl ?_
      refine AR.iload (pc := 42) (j := 0) dX9_swap_42 rfl ?_
      refine AR.iload_n (pc := 44) (j := 3) dX9_swap_44 rfl rfl ?_
      obtain ⟨c8, h⟩ := gn_some h
      refine AR.iastore (pc := 45) dX9_swap_45 rfl c8 ?_
      refine AR.aload_n (pc := 46) (j := 2) dX9_swap_46 rfl rfl ?_
      refine AR.iconst (pc := 47) (v := 0) dX9_swap_47 (by decide) ?_
      refine AR.putI (pc := 48) (ci := 9) (j := 29) (T := TX9) (ty0 := tyX9) (ty := .int) dX9_swap_48 rfl rfl rfl (by decide) (fun w hw => wsU_in (uw_X9 w hw)) tyX9_ok nmX9 (wsU_in fl_X9_176) rfl (by decide +kernel) rfl rfl ?_
      refine AR.iconst (pc := 51) (v := 1) dX9_swap_51 (by decide) ?_
      exact AR.iret (pc := 52) rfl dX9_swap_52 (hrI (Option.some.inj h))
    · replace h := ite_f c4 h
      refine AR.iconst (pc := 16) (v := (-1)) dX9_swap_16 (by decide) ?_
      exact AR.iret (pc := 17) rfl dX9_swap_17 (hrI (Option.some.inj h))
noncomputable def f9_turnsNow_28 (z0 : Int32) (z1 : Int32) (σ : HS) : Option (Int32 × HS) :=
  some ((z1 + z0), σ)
noncomputable def f9_turnsNow (σ : HS) : Option (Int32 × HS) :=
  if ((σ.1 0 1) : Int32) = 0 then
    some (0, σ)
  else
    if ((σ.1 0 4) : Int32) = 3 then
      f9_turnsNow_28 1 (σ.1 0 1) σ
    else
      f9_turnsNow_28 0 (σ.1 0 1) σ
set_option maxHeartbeats 4000000 in
set_option maxRecDepth 100000 in
theorem A9_turnsNow_28 {l : Launch} (z0 : Int32) (z1 : Int32) (σ : HS) (r : Int32 × HS) (h : f9_turnsNow_28 z0 z1 σ = some r) : AR l RX9 cX9_turnsNow 1 (some .int) (wsU yX9_turnsNow cX9_turnsNow 1 (some .int)) rm9_turnsNow SM 28 [] [.int z0, .int z1] σ (some (.int r.1), r.2) := by
  unfold f9_turnsNow_28 at h
  refine AR.iadd (pc := 28) dX9_turnsNow_28 ?_
  exact AR.iret (pc := 29) rfl dX9_turnsNow_29 (hrI (Option.some.inj h))
set_option maxHeartbeats 4000000 in
set_option maxRecDepth 100000 in
theorem A9_turnsNow {l : Launch} (σ : HS) (r : Int32 × HS) (h : f9_turnsNow σ = some r) : MA l yX9_turnsNow (wsU yX9_turnsNow cX9_turnsNow 1 (some .int)) rm9_turnsNow SM [.ref 0] σ (some (.int r.1), r.2) := by
  refine MA.of (L := [(0, .ref 0)]) pn_X9_turnsNow rfl (fun _ => Nat.le_of_ble_eq_true rfl) (fun _ => rfl) ?_
  unfold f9_turnsNow at h
  refine AR.aload_n (pc := 0) (j := 0) dX9_turnsNow_0 rfl rfl ?_
  refine AR.getf (pc := 1) (ci := 9) (j := 1) (d := 0) (v := .int (σ.1 0 1)) (T := TX9) dX9_turnsNow_1 rfl rfl rfl (by decide) (fun w hw => wsU_in (uw_X9 w hw)) (wsU_in fl_X9_113) rfl ?_
  refine AR.if_ne (pc := 4) (tgt := 11) dX9_turnsNow_4 (by decide) (fun c1 => ?_) (fun c1 => ?_)
  · replace h := ite_f c1 h
    refine AR.aload_n (pc := 11) (j := 0) dX9_turnsNow_11 rfl rfl ?_
    refine AR.getf (pc := 12) (ci := 9) (j := 1) (d := 0) (v := .int (σ.1 0 1)) (T := TX9) dX9_turnsNow_12 rfl rfl rfl (by decide) (fun w hw => wsU_in (uw_X9 w hw)) (wsU_in fl_X9_113) rfl ?_
    refine AR.aload_n (pc := 15) (j := 0) dX9_turnsNow_15 rfl rfl ?_
    refine AR.getf (pc := 16) (ci := 9) (j := 4) (d := 0) (v := .int (σ.1 0 4)) (T := TX9) dX9_turnsNow_16 rfl rfl rfl (by decide) (fun w hw => wsU_in (uw_X9 w hw)) (wsU_in fl_X9_173) rfl ?_
    refine AR.iconst (pc := 19) (v := 3) dX9_turnsNow_19 (by decide) ?_
    refine AR.icmp_ne (pc := 20) (tgt := 27) dX9_turnsNow_20 (by decide) (fun c2 => ?_) (fun c2 => ?_)
    · replace h := ite_f c2 h
      refine AR.iconst (pc := 27) (v := 0) dX9_turnsNow_27 (by decide) ?_
      exact AR.pick [] rfl (A9_turnsNow_28 0 (σ.1 0 1) σ r h)
    · replace h := ite_t c2 h
      refine AR.iconst (pc := 23) (v := 1) dX9_turnsNow_23 (by decide) ?_
      refine AR.goto (pc := 24) (tgt := 28) dX9_turnsNow_24 (by decide) ?_
      exact AR.pick [] rfl (A9_turnsNow_28 1 (σ.1 0 1) σ r h)
  · replace h := ite_t c1 h
    refine AR.iconst (pc := 7) (v := 0) dX9_turnsNow_7 (by decide) ?_
    refine AR.goto (pc := 8) (tgt := 29) dX9_turnsNow_8 (by decide) ?_
    exact AR.iret (pc := 29) rfl dX9_turnsNow_29 (hrI (Option.some.inj h))
noncomputable def f9_speakerOf (x1 : Int32) (σ : HS) : Option (Int32 × HS) :=
  if ((σ.1 0 1) : Int32) = 0 then none else
  if ((x1 - x1 / (σ.1 0 1) * (σ.1 0 1)) : Int32) < 0 ∨ 5 ≤ ((x1 - x1 / (σ.1 0 1) * (σ.1 0 1)) : Int32).toNatClampNeg then none else
  some ((σ.1 6 ((x1 - x1 / (σ.1 0 1) * (σ.1 0 1)) : Int32).toNatClampNeg), σ)
set_option maxHeartbeats 4000000 in
set_option maxRecDepth 100000 in
theorem A9_speakerOf {l : Launch} (x1 : Int32) (σ : HS) (r : Int32 × HS) (h : f9_speakerOf x1 σ = some r) : MA l yX9_speakerOf (wsU yX9_speakerOf cX9_speakerOf 2 (some .int)) rm9_speakerOf SM [.ref 0, .int x1] σ (some (.int r.1), r.2) := by
  refine MA.of (L := [(0, .ref 0), (1, .int x1)]) pn_X9_speakerOf rfl (fun _ => Nat.le_of_ble_eq_true rfl) (fun _ => rfl) ?_
  unfold f9_speakerOf at h
  refine AR.aload_n (pc := 0) (j := 0) dX9_speakerOf_0 rfl rfl ?_
  refine AR.getf (pc := 1) (ci := 9) (j := 10) (d := 6 + 2) (v := .ref 6) (T := TX9) dX9_speakerOf_1 rfl rfl rfl (by decide) (fun w hw => wsU_in (uw_X9 w hw)) (wsU_in fl_X9_25) rfl ?_
  refine AR.iload_n (pc := 4) (j := 1) dX9_speakerOf_4 rfl rfl ?_
  refine AR.aload_n (pc := 5) (j := 0) dX9_speakerOf_5 rfl rfl ?_
  refine AR.getf (pc := 6) (ci := 9) (j := 1) (d := 0) (v := .int (σ.1 0 1)) (T := TX9) dX9_speakerOf_6 rfl rfl rfl (by decide) (fun w hw => wsU_in (uw_X9 w hw)) (wsU_in fl_X9_113) rfl ?_
  obtain ⟨c1, h⟩ := gn_some h
  refine AR.irem (pc := 9) dX9_speakerOf_9 c1 ?_
  obtain ⟨c2, h⟩ := gn_some h
  refine AR.iaload (pc := 10) dX9_speakerOf_10 rfl c2 ?_
  exact AR.iret (pc := 11) rfl dX9_speakerOf_11 (hrI (Option.some.inj h))
noncomputable def f9_startWater (σ : HS) : Option (Int32 × HS) :=
  if ((σ.1 0 4) : Int32) = 1 then
    if ((σ.1 0 1) : Int32) = 0 then none else
    some (((σ.1 0 2) / (σ.1 0 1)), σ)
  else
    some ((σ.1 0 2), σ)
set_option maxHeartbeats 4000000 in
set_option maxRecDepth 100000 in
theorem A9_startWater {l : Launch} (σ : HS) (r : Int32 × HS) (h : f9_startWater σ = some r) : MA l yX9_startWater (wsU yX9_startWater cX9_startWater 1 (some .int)) rm9_startWater SM [.ref 0] σ (some (.int r.1), r.2) := by
  refine MA.of (L := [(0, .ref 0)]) pn_X9_startWater rfl (fun _ => Nat.le_of_ble_eq_true rfl) (fun _ => rfl) ?_
  unfold f9_startWater at h
  refine AR.aload_n (pc := 0) (j := 0) dX9_startWater_0 rfl rfl ?_
  refine AR.getf (pc := 1) (ci := 9) (j := 4) (d := 0) (v := .int (σ.1 0 4)) (T := TX9) dX9_startWater_1 rfl rfl rfl (by decide) (fun w hw => wsU_in (uw_X9 w hw)) (wsU_in fl_X9_173) rfl ?_
  refine AR.iconst (pc := 4) (v := 1) dX9_startWater_4 (by decide) ?_
  refine AR.icmp_ne (pc := 5) (tgt := 20) dX9_startWater_5 (by decide) (fun c1 => ?_) (fun c1 => ?_)
  · replace h := ite_f c1 h
    refine AR.aload_n (pc := 20) (j := 0) dX9_startWater_20 rfl rfl ?_
    refine AR.getf (pc := 21) (ci := 9) (j := 2) (d := 0) (v := .int (σ.1 0 2)) (T := TX9) dX9_startWater_21 rfl rfl rfl (by decide) (fun w hw => wsU_in (uw_X9 w hw)) (wsU_in fl_X9_167) rfl ?_
    exact AR.iret (pc := 24) rfl dX9_startWater_24 (hrI (Option.some.inj h))
  · replace h := ite_t c1 h
    refine AR.aload_n (pc := 8) (j := 0) dX9_startWater_8 rfl rfl ?_
    refine AR.getf (pc := 9) (ci := 9) (j := 2) (d := 0) (v := .int (σ.1 0 2)) (T := TX9) dX9_startWater_9 rfl rfl rfl (by decide) (fun w hw => wsU_in (uw_X9 w hw)) (wsU_in fl_X9_167) rfl ?_
    refine AR.aload_n (pc := 12) (j := 0) dX9_startWater_12 rfl rfl ?_
    refine AR.getf (pc := 13) (ci := 9) (j := 1) (d := 0) (v := .int (σ.1 0 1)) (T := TX9) dX9_startWater_13 rfl rfl rfl (by decide) (fun w hw => wsU_in (uw_X9 w hw)) (wsU_in fl_X9_113) rfl ?_
    obtain ⟨c2, h⟩ := gn_some h
    refine AR.idiv (pc := 16) dX9_startWater_16 c2 ?_
    refine AR.goto (pc := 17) (tgt := 24) dX9_startWater_17 (by decide) ?_
    exact AR.iret (pc := 24) rfl dX9_startWater_24 (hrI (Option.some.inj h))
noncomputable def f9_behind (x1 : Int32) (x2 : Int32) (σ : HS) : Option (Int32 × HS) :=
  if ((σ.1 0 4) : Int32) = 1 then
    bd (f9_startWater σ) fun r4 =>
    some (r4.1, r4.2)
  else
    bd (f9_greater 0 (x1 - x2) σ) fun r2 =>
    if (((r2.2).1 0 4) : Int32) = 2 then
      some (((r2.1) / 2), r2.2)
    else
      some (r2.1, r2.2)
set_option maxHeartbeats 4000000 in
set_option maxRecDepth 100000 in
theorem A9_behind {l : Launch} (x1 : Int32) (x2 : Int32) (σ : HS) (r : Int32 × HS) (h : f9_behind x1 x2 σ = some r) : MA l yX9_behind (wsU yX9_behind cX9_behind 4 (some .int)) rm9_behind SM [.ref 0, .int x1, .int x2] σ (some (.int r.1), r.2) := by
  refine MA.of (L := [(0, .ref 0), (1, .int x1), (2, .int x2)]) pn_X9_behind rfl (fun _ => Nat.le_of_ble_eq_true rfl) (fun _ => rfl) ?_
  unfold f9_behind at h
  refine AR.aload_n (pc := 0) (j := 0) dX9_behind_0 rfl rfl ?_
  refine AR.getf (pc := 1) (ci := 9) (j := 4) (d := 0) (v := .int (σ.1 0 4)) (T := TX9) dX9_behind_1 rfl rfl rfl (by decide) (fun w hw => wsU_in (uw_X9 w hw)) (wsU_in fl_X9_173) rfl ?_
  refine AR.iconst (pc := 4) (v := 1) dX9_behind_4 (by decide) ?_
  refine AR.icmp_ne (pc := 5) (tgt := 13) dX9_behind_5 (by decide) (fun c1 => ?_) (fun c1 => ?_)
  · replace h := ite_f c1 h
    refine AR.iconst (pc := 13) (v := 0) dX9_behind_13 (by decide) ?_
    refine AR.iload_n (pc := 14) (j := 1) dX9_behind_14 rfl rfl ?_
    refine AR.iload_n (pc := 15) (j := 2) dX9_behind_15 rfl rfl ?_
    refine AR.isub (pc := 16) dX9_behind_16 ?_
    obtain ⟨r2, h2, h⟩ := bd_some h
    refine AR.callS (pc := 17) (As := [.int 0, .int (x1 - x2)]) (st := []) dX9_behind_17 ⟨cd_X9_greater, sm_X9_greater, ini_X9⟩ ml_X9_191 (A9_greater 0 (x1 - x2) σ _ h2) ⟨rfl, pd_X9_greater⟩ ⟨Nat.le_of_ble_eq_true rfl, Nat.le_of_ble_eq_true rfl⟩ ⟨rfl, rfl⟩ rfl (Nat.le_of_ble_eq_true rfl) ?_
    refine AR.istore_n (pc := 20) (L2 := [(3, .int (r2.1)), (0, .ref 0), (1, .int x1), (2, .int x2)]) dX9_behind_20 rfl (by decide) rfl ?_
    refine AR.aload_n (pc := 21) (j := 1) dX9_behind_21 rfl rfl ?_
    refine AR.getf (pc := 22) (ci := 9) (j := 4) (d := 0) (v := .int ((r2.2).1 0 4)) (T := TX9) dX9_behind_22 rfl rfl rfl (by decide) (fun w hw => wsU_in (uw_X9 w hw)) (wsU_in fl_X9_173) rfl ?_
    refine AR.iconst (pc := 25) (v := 2) dX9_behind_25 (by decide) ?_
    refine AR.icmp_ne (pc := 26) (tgt := 35) dX9_behind_26 (by decide) (fun c3 => ?_) (fun c3 => ?_)
    · replace h := ite_f c3 h
      refine AR.iload_n (pc := 35) (j := 0) dX9_behind_35 rfl rfl ?_
      exact AR.iret (pc := 36) rfl dX9_behind_36 (hrI (Option.some.inj h))
    · replace h := ite_t c3 h
      refine AR.iload_n (pc := 29) (j := 0) dX9_behind_29 rfl rfl ?_
      refine AR.iconst (pc := 30) (v := 2) dX9_behind_30 (by decide) ?_
      refine AR.idiv (pc := 31) dX9_behind_31 (by decide) ?_
      refine AR.goto (pc := 32) (tgt := 36) dX9_behind_32 (by decide) ?_
      exact AR.iret (pc := 36) rfl dX9_behind_36 (hrI (Option.some.inj h))
  · replace h := ite_t c1 h
    refine AR.aload_n (pc := 8) (j := 0) dX9_behind_8 rfl rfl ?_
    obtain ⟨r4, h4, h⟩ := bd_some h
    refine AR.callV (pc := 9) (As := []) (st := []) (ci := 9) dX9_behind_9 ⟨cd_X9_startWater, im_X9_startWater, se_X9_startWater, ini_X9⟩ ml_X9_187 (A9_startWater σ _ h4) ⟨rfl, pd_X9_startWater⟩ ⟨Nat.le_of_ble_eq_true rfl, Nat.le_of_ble_eq_true rfl⟩ ⟨rfl, rfl⟩ rfl rfl rfl (Nat.le_of_ble_eq_true rfl) ?_
    exact AR.iret (pc := 12) rfl dX9_behind_12 (hrI (Option.some.inj h))
