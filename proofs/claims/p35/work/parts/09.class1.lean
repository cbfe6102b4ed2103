set_option maxHeartbeats 4000000 in
set_option maxRecDepth 100000 in
theorem A8_set {l : Launch} (k n : Nat) (hk : SC[k]? = some (0, n, [])) (x1 : Int32) (x2 : Int32) (σ : HS) (r : HS) (h : f8_set k n x1 x2 σ = some r) : MA l yX8_set (wsU yX8_set cX8_set 3 none) rm8_set SC [.ref k, .int x1, .int x2] σ (none, r) := by
  refine MA.of (L := [(0, .ref k), (1, .int x1), (2, .int x2)]) pn_X8_set rfl (fun _ => Nat.le_of_ble_eq_true rfl) (fun _ => rfl) ?_
  unfold f8_set at h
  refine AR.aload_n (pc := 0) (j := 0) dX8_set_0 rfl rfl ?_
  refine AR.ifnull (pc := 1) dX8_set_1 ?_
  refine AR.iload_n (pc := 4) (j := 1) dX8_set_4 rfl rfl ?_
  refine AR.if_lt (pc := 5) (tgt := 18) dX8_set_5 (by decide) (fun c1 => ?_) (fun c1 => ?_)
  · replace h := ite_t c1 h
    exact AR.vret (pc := 18) rfl dX8_set_18 (hrV (Option.some.inj h))
  · replace h := ite_f c1 h
    refine AR.iload_n (pc := 8) (j := 1) dX8_set_8 rfl rfl ?_
    refine AR.aload_n (pc := 9) (j := 0) dX8_set_9 rfl rfl ?_
    refine AR.alen (pc := 10) dX8_set_10 hk ?_
    refine AR.icmp_ge (pc := 11) (tgt := 18) dX8_set_11 (by decide) (fun c2 => ?_) (fun c2 => ?_)
    · replace h := ite_t c2 h
      exact AR.vret (pc := 18) rfl dX8_set_18 (hrV (Option.some.inj h))
    · replace h := ite_f c2 h
      refine AR.aload_n (pc := 14) (j := 0) dX8_set_14 rfl rfl ?_
      refine AR.iload_n (pc := 15) (j := 1) dX8_set_15 rfl rfl ?_
      refine AR.iload_n (pc := 16) (j := 2) dX8_set_16 rfl rfl ?_
      obtain ⟨c3, h⟩ := gn_some h
      refine AR.iastore (pc := 17) dX8_set_17 hk c3 ?_
      exact AR.vret (pc := 18) rfl dX8_set_18 (hrV (Option.some.inj h))
set_option maxHeartbeats 4000000 in
set_option maxRecDepth 100000 in
theorem A0_takeFirstOrder_2_b {l : Launch} (g : Nat) (hg : Grp g) (k2 : Int32 × HS → Option (HS)) (x1 : Int32) (hk2 : ∀ (p : Int32 × HS) (r : HS), k2 p = some r → AR l RX0 cX0_takeFirstOrder 2 none (wsU yX0_takeFirstOrder cX0_takeFirstOrder 2 none) rm0_takeFirstOrder SC 2 [(0, .ref g), (1, .int (p.1))] [] p.2 (none, r)) (σ : HS) (r : HS) (h : f0_takeFirstOrder_2_b g k2 x1 σ = some r) : AR l RX0 cX0_takeFirstOrder 2 none (wsU yX0_takeFirstOrder cX0_takeFirstOrder 2 none) rm0_takeFirstOrder SC 2 [(0, .ref g), (1, .int x1)] [] σ (none, r) := by
  unfold f0_takeFirstOrder_2_b at h
  refine AR.iload_n (pc := 2) (j := 1) dX0_takeFirstOrder_2 rfl rfl ?_
  refine AR.iconst (pc := 3) (v := 5) dX0_takeFirstOrder_3 (by decide) ?_
  refine AR.icmp_ge (pc := 4) (tgt := 22) dX0_takeFirstOrder_4 (by decide) (fun c1 => ?_) (fun c1 => ?_)
  · replace h := ite_t c1 h
    exact AR.vret (pc := 22) rfl dX0_takeFirstOrder_22 (hrV (Option.some.inj h))
  · replace h := ite_f c1 h
    refine AR.aload_n (pc := 7) (j := 0) dX0_takeFirstOrder_7 rfl rfl ?_
    refine AR.getf (pc := 8) (ci := 0) (j := 1) (d := (g + 1) + 2) (v := .ref (g + 1)) (T := TX0) dX0_takeFirstOrder_8 (gr0 hg) rfl rfl (by decide) (fun w hw => wsU_in (uw_X0 w hw)) (wsU_in fl_X0_9) rfl ?_
    refine AR.iload_n (pc := 11) (j := 1) dX0_takeFirstOrder_11 rfl rfl ?_
    refine AR.iload_n (pc := 12) (j := 1) dX0_takeFirstOrder_12 rfl rfl ?_
    obtain ⟨r2, h2, h⟩ := bd_some h
    refine AR.callSN (pc := 13) (As := [.ref (g + 1), .int x1, .int x1]) (st := []) dX0_takeFirstOrder_13 ⟨cd_X8_set, sm_X8_set, ini_X8⟩ mn_X0_32 (A8_set (g + 1) 5 (gr1 hg) x1 x1 σ _ h2) pd_X8_set ⟨Nat.le_of_ble_eq_true rfl, Nat.le_of_ble_eq_true rfl⟩ ⟨rfl, rfl⟩ rfl (Nat.le_of_ble_eq_true rfl) ?_
    refine AR.iinc (pc := 16) (j := 1) (v := (x1 + 1)) (L2 := [(1, .int (x1 + 1)), (0, .ref g)]) dX0_takeFirstOrder_16 rfl rfl (by decide) rfl ?_
    refine AR.goto (pc := 19) (tgt := 2) dX0_takeFirstOrder_19 (by decide) ?_
    exact AR.pick [1, 0] rfl (hk2 ((x1 + 1), r2) r h)
theorem A0_takeFirstOrder_2 {l : Launch} (g : Nat) (hg : Grp g) (p : Int32 × HS) (r : HS) (h : f0_takeFirstOrder_2 g p = some r) : AR l RX0 cX0_takeFirstOrder 2 none (wsU yX0_takeFirstOrder cX0_takeFirstOrder 2 none) rm0_takeFirstOrder SC 2 [(0, .ref g), (1, .int (p.1))] [] p.2 (none, r) := by
  unfold f0_takeFirstOrder_2 at h
  exact wloop_run (body := fun k2 p => f0_takeFirstOrder_2_b g k2 p.1 p.2) (Q := fun p r => AR l RX0 cX0_takeFirstOrder 2 none (wsU yX0_takeFirstOrder cX0_takeFirstOrder 2 none) rm0_takeFirstOrder SC 2 [(0, .ref g), (1, .int (p.1))] [] p.2 (none, r)) (fun k2 hk2 p r h => A0_takeFirstOrder_2_b g hg k2 p.1 hk2 p.2 r h) fuelN p r h
set_option maxHeartbeats 4000000 in
set_option maxRecDepth 100000 in
theorem A0_takeFirstOrder {l : Launch} (g : Nat) (hg : Grp g) (σ : HS) (r : HS) (h : f0_takeFirstOrder g σ = some r) : MA l yX0_takeFirstOrder (wsU yX0_takeFirstOrder cX0_takeFirstOrder 2 none) rm0_takeFirstOrder SC [.ref g] σ (none, r) := by
  refine MA.of (L := [(0, .ref g)]) pn_X0_takeFirstOrder rfl (fun _ => Nat.le_of_ble_eq_true rfl) (fun _ => rfl) ?_
  unfold f0_takeFirstOrder at h
  refine AR.iconst (pc := 0) (v := 0) dX0_takeFirstOrder_0 (by decide) ?_
  refine AR.istore_n (pc := 1) (L2 := [(1, .int 0), (0, .ref g)]) dX0_takeFirstOrder_1 rfl (by decide) rfl ?_
  exact AR.pick [1, 0] rfl (A0_takeFirstOrder_2 g hg (0, σ) r h)
set_option maxHeartbeats 4000000 in
set_option maxRecDepth 100000 in
theorem A0_beginAnew {l : Launch} (σ : HS) (r : HS) (h : f0_beginAnew σ = some r) : MA l yX0_beginAnew (wsU yX0_beginAnew cX0_beginAnew 1 none) rm0_beginAnew SC [.ref 20] σ (none, r) := by
  refine MA.of (L := [(0, .ref 20)]) pn_X0_beginAnew rfl (fun _ => Nat.le_of_ble_eq_true rfl) (fun _ => rfl) ?_
  unfold f0_beginAnew at h
  refine AR.aload_n (pc := 0) (j := 0) dX0_beginAnew_0 rfl rfl ?_
  refine AR.iconst (pc := 1) (v := 0) dX0_beginAnew_1 (by decide) ?_
  refine AR.putI (pc := 2) (ci := 0) (j := 2) (T := TX0) (ty0 := tyX0) (ty := .int) dX0_beginAnew_2 rfl rfl rfl (by decide) (fun w hw => wsU_in (uw_X0 w hw)) tyX0_ok nmX0 (wsU_in fl_X0_15) rfl (by decide +kernel) rfl rfl ?_
  refine AR.aload_n (pc := 5) (j := 0) dX0_beginAnew_5 rfl rfl ?_
  refine AR.aload_n (pc := 6) (j := 0) dX0_beginAnew_6 rfl rfl ?_
  refine AR.getf (pc := 7) (ci := 0) (j := 0) (d := 5 + 2) (v := .ref 5) (T := TX0) dX0_beginAnew_7 rfl rfl rfl (by decide) (fun w hw => wsU_in (uw_X0 w hw)) (wsU_in fl_X0_22) rfl ?_
  refine AR.getfN (pc := 10) (ci := 4) (j := 2) (d := 0) (v := .int ((uI σ 20 2 0).1 5 2)) (T := TX4) dX0_beginAnew_10 rfl rfl rfl (by decide) (fun w hw => wsU_in (uw_X4 w hw)) fn_X0_26 rfl ?_
  refine AR.putI (pc := 13) (ci := 0) (j := 3) (T := TX0) (ty0 := tyX0) (ty := .int) dX0_beginAnew_13 rfl rfl rfl (by decide) (fun w hw => wsU_in (uw_X0 w hw)) tyX0_ok nmX0 (wsU_in fl_X0_19) rfl (by decide +kernel) rfl rfl ?_
  refine AR.aload_n (pc := 16) (j := 0) dX0_beginAnew_16 rfl rfl ?_
  obtain ⟨r1, h1, h⟩ := bd_some h
  refine AR.callV (pc := 17) (As := []) (st := []) (ci := 0) dX0_beginAnew_17 ⟨cd_X0_takeFirstOrder, im_X0_takeFirstOrder, se_X0_takeFirstOrder, ini_X0⟩ ml_X0_29 (A0_takeFirstOrder 20 grp20 (uI (uI σ 20 2 0) 20 3 ((uI σ 20 2 0).1 5 2)) _ h1) ⟨rfl, pd_X0_takeFirstOrder⟩ ⟨Nat.le_of_ble_eq_true rfl, Nat.le_of_ble_eq_true rfl⟩ ⟨rfl, rfl⟩ rfl rfl rfl (Nat.le_of_ble_eq_true rfl) ?_
  exact AR.vret (pc := 20) rfl dX0_beginAnew_20 (hrV (Option.some.inj h))
set_option maxHeartbeats 4000000 in
set_option maxRecDepth 100000 in
theorem A8_at_20 {l : Launch} (k n : Nat) (hk : SC[k]? = some (0, n, [])) (σ : HS) (r : Int32 × HS) (h : f8_at_20 k n σ = some r) : AR l RX8 cX8_at 2 (some .int) (wsU yX8_at cX8_at 2 (some .int)) rm8_at SC 20 [] [] σ (some (.int r.1), r.2) := by
  unfold f8_at_20 at h
  refine AR.iconst (pc := 20) (v := 0) dX8_at_20 (by decide) ?_
  exact AR.iret (pc := 21) rfl dX8_at_21 (hrI (Option.some.inj h))
set_option maxHeartbeats 4000000 in
set_option maxRecDepth 100000 in
theorem A8_at {l : Launch} (k n : Nat) (hk : SC[k]? = some (0, n, [])) (x1 : Int32) (σ : HS) (r : Int32 × HS) (h : f8_at k n x1 σ = some r) : MA l yX8_at (wsU yX8_at cX8_at 2 (some .int)) rm8_at SC [.ref k, .int x1] σ (some (.int r.1), r.2) := by
  refine MA.of (L := [(0, .ref k), (1, .int x1)]) pn_X8_at rfl (fun _ => Nat.le_of_ble_eq_true rfl) (fun _ => rfl) ?_
  unfold f8_at at h
  refine AR.aload_n (pc := 0) (j := 0) dX8_at_0 rfl rfl ?_
  refine AR.ifnull (pc := 1) dX8_at_1 ?_
  refine AR.iload_n (pc := 4) (j := 1) dX8_at_4 rfl rfl ?_
  refine AR.if_lt (pc := 5) (tgt := 20) dX8_at_5 (by decide) (fun c1 => ?_) (fun c1 => ?_)
  · replace h := ite_t c1 h
    exact AR.pick [] rfl (A8_at_20 k n hk σ r h)
  · replace h := ite_f c1 h
    refine AR.iload_n (pc := 8) (j := 1) dX8_at_8 rfl rfl ?_
    refine AR.aload_n (pc := 9) (j := 0) dX8_at_9 rfl rfl ?_
    refine AR.alen (pc := 10) dX8_at_10 hk ?_
    refine AR.icmp_ge (pc := 11) (tgt := 20) dX8_at_11 (by decide) (fun c2 => ?_) (fun c2 => ?_)
    · replace h := ite_t c2 h
      exact AR.pick [] rfl (A8_at_20 k n hk σ r h)
    · replace h := ite_f c2 h
      refine AR.aload_n (pc := 14) (j := 0) dX8_at_14 rfl rfl ?_
      refine AR.iload_n (pc := 15) (j := 1) dX8_at_15 rfl rfl ?_
      obtain ⟨c3, h⟩ := gn_some h
      refine AR.iaload (pc := 16) dX8_at_16 hk c3 ?_
      refine AR.goto (pc := 17) (tgt := 21) dX8_at_17 (by decide) ?_
      exact AR.iret (pc := 21) rfl dX8_at_21 (hrI (Option.some.inj h))
set_option maxHeartbeats 4000000 in
set_option maxRecDepth 100000 in
theorem A0_whoAt {l : Launch} (g : Nat) (hg : Grp g) (x1 : Int32) (σ : HS) (r : Int32 × HS) (h : f0_whoAt g x1 σ = some r) : MA l yX0_whoAt (wsU yX0_whoAt cX0_whoAt 2 (some .int)) rm0_whoAt SC [.ref g, .int x1] σ (some (.int r.1), r.2) := by
  refine MA.of (L := [(0, .ref g), (1, .int x1)]) pn_X0_whoAt rfl (fun _ => Nat.le_of_ble_eq_true rfl) (fun _ => rfl) ?_
  unfold f0_whoAt at h
  refine AR.aload_n (pc := 0) (j := 0) dX0_whoAt_0 rfl rfl ?_
  refine AR.getf (pc := 1) (ci := 0) (j := 1) (d := (g + 1) + 2) (v := .ref (g + 1)) (T := TX0) dX0_whoAt_1 (gr0 hg) rfl rfl (by decide) (fun w hw => wsU_in (uw_X0 w hw)) (wsU_in fl_X0_9) rfl ?_
  refine AR.iload_n (pc := 4) (j := 1) dX0_whoAt_4 rfl rfl ?_
  obtain ⟨r1, h1, h⟩ := bd_some h
  refine AR.callSN (pc := 5) (As := [.ref (g + 1), .int x1]) (st := []) dX0_whoAt_5 ⟨cd_X8_at, sm_X8_at, ini_X8⟩ mn_X0_47 (A8_at (g + 1) 5 (gr1 hg) x1 σ _ h1) pd_X8_at ⟨Nat.le_of_ble_eq_true rfl, Nat.le_of_ble_eq_true rfl⟩ ⟨rfl, rfl⟩ rfl (Nat.le_of_ble_eq_true rfl) ?_
  exact AR.iret (pc := 8) rfl dX0_whoAt_8 (hrI (Option.some.inj h))
set_option maxHeartbeats 4000000 in
set_option maxRecDepth 100000 in
theorem A0_follow_18_b {l : Launch} (k18 : Int32 × HS → Option (HS)) (x2 : Int32) (hk18 : ∀ (p : Int32 × HS) (r : HS), k18 p = some r → AR l RX0 cX0_follow 3 none (wsU yX0_follow cX0_follow 3 none) rm0_follow SC 18 [(0, .ref 30), (1, .ref 20), (2, .int (p.1))] [] p.2 (none, r)) (σ : HS) (r : HS) (h : f0_follow_18_b k18 x2 σ = some r) : AR l RX0 cX0_follow 3 none (wsU yX0_follow cX0_follow 3 none) rm0_follow SC 18 [(0, .ref 30), (1, .ref 20), (2, .int x2)] [] σ (none, r) := by
  unfold f0_follow_18_b at h
  refine AR.iload_n (pc := 18) (j := 2) dX0_follow_18 rfl rfl ?_
  refine AR.iconst (pc := 19) (v := 5) dX0_follow_19 (by decide) ?_
  refine AR.icmp_ge (pc := 20) (tgt := 42) dX0_follow_20 (by decide) (fun c1 => ?_) (fun c1 => ?_)
  · replace h := ite_t c1 h
    exact AR.vret (pc := 42) rfl dX0_follow_42 (hrV (Option.some.inj h))
  · replace h := ite_f c1 h
    refine AR.aload_n (pc := 23) (j := 0) dX0_follow_23 rfl rfl ?_
    refine AR.getf (pc := 24) (ci := 0) (j := 1) (d := 31 + 2) (v := .ref 31) (T := TX0) dX0_follow_24 rfl rfl rfl (by decide) (fun w hw => wsU_in (uw_X0 w hw)) (wsU_in fl_X0_9) rfl ?_
    refine AR.iload_n (pc := 27) (j := 2) dX0_follow_27 rfl rfl ?_
    refine AR.aload_n (pc := 28) (j := 1) dX0_follow_28 rfl rfl ?_
    refine AR.iload_n (pc := 29) (j := 2) dX0_follow_29 rfl rfl ?_
    obtain ⟨r2, h2, h⟩ := bd_some h
    refine AR.callV (pc := 30) (As := [.int x2]) (st := [.int x2, .ref 31]) (ci := 0) dX0_follow_30 ⟨cd_X0_whoAt, im_X0_whoAt, se_X0_whoAt, ini_X0⟩ ml_X0_36 (A0_whoAt 20 grp20 x2 σ _ h2) ⟨rfl, pd_X0_whoAt⟩ ⟨Nat.le_of_ble_eq_true rfl, Nat.le_of_ble_eq_true rfl⟩ ⟨rfl, rfl⟩ rfl rfl rfl (Nat.le_of_ble_eq_true rfl) ?_
    obtain ⟨r3, h3, h⟩ := bd_some h
    refine AR.callSN (pc := 33) (As := [.ref 31, .int x2, .int (r2.1)]) (st := []) dX0_follow_33 ⟨cd_X8_set, sm_X8_set, ini_X8⟩ mn_X0_32 (A8_set 31 5 rfl x2 (r2.1) (r2.2) _ h3) pd_X8_set ⟨Nat.le_of_ble_eq_true rfl, Nat.le_of_ble_eq_true rfl⟩ ⟨rfl, rfl⟩ rfl (Nat.le_of_ble_eq_true rfl) ?_
    refine AR.iinc (pc := 36) (j := 2) (v := (x2 + 1)) (L2 := [(2, .int (x2 + 1)), (0, .ref 30), (1, .ref 20)]) dX0_follow_36 rfl rfl (by decide) rfl ?_
    refine AR.goto (pc := 39) (tgt := 18) dX0_follow_39 (by decide) ?_
    exact AR.pick [1, 2, 0] rfl (hk18 ((x2 + 1), r3) r h)
theorem A0_follow_18 {l : Launch} (p : Int32 × HS) (r : HS) (h : f0_follow_18 p = some r) : AR l RX0 cX0_follow 3 none (wsU yX0_follow cX0_follow 3 none) rm0_follow SC 18 [(0, .ref 30), (1, .ref 20), (2, .int (p.1))] [] p.2 (none, r) := by
  unfold f0_follow_18 at h
  exact wloop_run (body := fun k18 p => f0_follow_18_b k18 p.1 p.2) (Q := fun p r => AR l RX0 cX0_follow 3 none (wsU yX0_follow cX0_follow 3 none) rm0_follow SC 18 [(0, .ref 30), (1, .ref 20), (2, .int (p.1))] [] p.2 (none, r)) (fun k18 hk18 p r h => A0_follow_18_b k18 p.1 hk18 p.2 r h) fuelN p r h
set_option maxHeartbeats 4000000 in
set_option maxRecDepth 100000 in
theorem A0_follow {l : Launch} (σ : HS) (r : HS) (h : f0_follow σ = some r) : MA l yX0_follow (wsU yX0_follow cX0_follow 3 none) rm0_follow SC [.ref 30, .ref 20] σ (none, r) := by
  refine MA.of (L := [(0, .ref 30), (1, .ref 20)]) pn_X0_follow rfl (fun _ => Nat.le_of_ble_eq_true rfl) (fun _ => rfl) ?_
  unfold f0_follow at h
  refine AR.aload_n (pc := 0) (j := 0) dX0_follow_0 rfl rfl ?_
  refine AR.aload_n (pc := 1) (j := 1) dX0_follow_1 rfl rfl ?_
  refine AR.getf (pc := 2) (ci := 0) (j := 2) (d := 0) (v := .int (σ.1 20 2)) (T := TX0) dX0_follow_2 rfl rfl rfl (by decide) (fun w hw => wsU_in (uw_X0 w hw)) (wsU_in fl_X0_15) rfl ?_
  refine AR.putI (pc := 5) (ci := 0) (j := 2) (T := TX0) (ty0 := tyX0) (ty := .int) dX0_follow_5 rfl rfl rfl (by decide) (fun w hw => wsU_in (uw_X0 w hw)) tyX0_ok nmX0 (wsU_in fl_X0_15) rfl (by decide +kernel) rfl rfl ?_
  refine AR.aload_n (pc := 8) (j := 0) dX0_follow_8 rfl rfl ?_
  refine AR.aload_n (pc := 9) (j := 1) dX0_follow_9 rfl rfl ?_
  refine AR.getf (pc := 10) (ci := 0) (j := 3) (d := 0) (v := .int ((uI σ 30 2 (σ.1 20 2)).1 20 3)) (T := TX0) dX0_follow_10 rfl rfl rfl (by decide) (fun w hw => wsU_in (uw_X0 w hw)) (wsU_in fl_X0_19) rfl ?_
  refine AR.putI (pc := 13) (ci := 0) (j := 3) (T := TX0) (ty0 := tyX0) (ty := .int) dX0_follow_13 rfl rfl rfl (by decide) (fun w hw => wsU_in (uw_X0 w hw)) tyX0_ok nmX0 (wsU_in fl_X0_19) rfl (by decide +kernel) rfl rfl ?_
  refine AR.iconst (pc := 16) (v := 0) dX0_follow_16 (by decide) ?_
  refine AR.istore_n (pc := 17) (L2 := [(2, .int 0), (0, .ref 30), (1, .ref 20)]) dX0_follow_17 rfl (by decide) rfl ?_
  exact AR.pick [1, 2, 0] rfl (A0_follow_18 (0, (uI (uI σ 30 2 (σ.1 20 2)) 30 3 ((uI σ 30 2 (σ.1 20 2)).1 20 3))) r h)
set_option maxHeartbeats 4000000 in
set_option maxRecDepth 100000 in
theorem A0_turns_30 {l : Launch} (g : Nat) (hg : Grp g) (σ : HS) (r : Int32 × HS) (h : f0_turns_30 g σ = some r) : AR l RX0 cX0_turns 1 (some .int) (wsU yX0_turns cX0_turns 1 (some .int)) rm0_turns SC 30 [(0, .ref g)] [] σ (some (.int r.1), r.2) := by
  unfold f0_turns_30 at h
  refine AR.aload_n (pc := 30) (j := 0) dX0_turns_30 rfl rfl ?_
  refine AR.getf (pc := 31) (ci := 0) (j := 0) (d := 5 + 2) (v := .ref 5) (T := TX0) dX0_turns_31 (gr0 hg) rfl rfl (by decide) (fun w hw => wsU_in (uw_X0 w hw)) (wsU_in fl_X0_22) rfl ?_
  refine AR.getfN (pc := 34) (ci := 4) (j := 0) (d := 0) (v := .int (σ.1 5 0)) (T := TX4) dX0_turns_34 rfl rfl rfl (by decide) (fun w hw => wsU_in (uw_X4 w hw)) fn_X0_40 rfl ?_
  exact AR.iret (pc := 37) rfl dX0_turns_37 (hrI (Option.some.inj h))
set_option maxHeartbeats 4000000 in
set_option maxRecDepth 100000 in
theorem A0_turns {l : Launch} (g : Nat) (hg : Grp g) (σ : HS) (r : Int32 × HS) (h : f0_turns g σ = some r) : MA l yX0_turns (wsU yX0_turns cX0_turns 1 (some .int)) rm0_turns SC [.ref g] σ (some (.int r.1), r.2) := by
  refine MA.of (L := [(0, .ref g)]) pn_X0_turns rfl (fun _ => Nat.le_of_ble_eq_true rfl) (fun _ => rfl) ?_
  unfold f0_turns at h
  refine AR.aload_n (pc := 0) (j := 0) dX0_turns_0 rfl rfl ?_
  refine AR.getf (pc := 1) (ci := 0) (j := 2) (d := 0) (v := .int (σ.1 g 2)) (T := TX0) dX0_turns_1 (gr0 hg) rfl rfl (by decide) (fun w hw => wsU_in (uw_X0 w hw)) (wsU_in fl_X0_15) rfl ?_
  refine AR.iconst (pc := 4) (v := 3) dX0_turns_4 (by decide) ?_
  refine AR.icmp_ne (pc := 5) (tgt := 30) dX0_turns_5 (by decide) (fun c1 => ?_) (fun c1 => ?_)
  · replace h := ite_f c1 h
    exact AR.pick [0] rfl (A0_turns_30 g hg σ r h)
  · replace h := ite_t c1 h
    refine AR.aload_n (pc := 8) (j := 0) dX0_turns_8 rfl rfl ?_
    refine AR.getf (pc := 9) (ci := 0) (j := 0) (d := 5 + 2) (v := .ref 5) (T := TX0) dX0_turns_9 (gr0 hg) rfl rfl (by decide) (fun w hw => wsU_in (uw_X0 w hw)) (wsU_in fl_X0_22) rfl ?_
    refine AR.getfN (pc := 12) (ci := 4) (j := 0) (d := 0) (v := .int (σ.1 5 0)) (T := TX4) dX0_turns_12 rfl rfl rfl (by decide) (fun w hw => wsU_in (uw_X4 w hw)) fn_X0_40 rfl ?_
    refine AR.if_le (pc := 15) (tgt := 30) dX0_turns_15 (by decide) (fun c2 => ?_) (fun c2 => ?_)
    · replace h := ite_t c2 h
      exact AR.pick [0] rfl (A0_turns_30 g hg σ r h)
    · replace h := ite_f c2 h
      refine AR.aload_n (pc := 18) (j := 0) dX0_turns_18 rfl rfl ?_
      refine AR.getf (pc := 19) (ci := 0) (j := 0) (d := 5 + 2) (v := .ref 5) (T := TX0) dX0_turns_19 (gr0 hg) rfl rfl (by decide) (fun w hw => wsU_in (uw_X0 w hw)) (wsU_in fl_X0_22) rfl ?_
      refine AR.getfN (pc := 22) (ci := 4) (j := 0) (d := 0) (v := .int (σ.1 5 0)) (T := TX4) dX0_turns_22 rfl rfl rfl (by decide) (fun w hw => wsU_in (uw_X4 w hw)) fn_X0_40 rfl ?_
      refine AR.iconst (pc := 25) (v := 1) dX0_turns_25 (by decide) ?_
      refine AR.iadd (pc := 26) dX0_turns_26 ?_
      refine AR.goto (pc := 27) (tgt := 37) dX0_turns_27 (by decide) ?_
      exact AR.iret (pc := 37) rfl dX0_turns_37 (hrI (Option.some.inj h))
set_option maxHeartbeats 4000000 in
set_option maxRecDepth 100000 in
theorem A0_hasTurn_16 {l : Launch} (σ : HS) (r : Int32 × HS) (h : f0_hasTurn_16 σ = some r) : AR l RX0 cX0_hasTurn 2 (some .boolean) (wsU yX0_hasTurn cX0_hasTurn 2 (some .boolean)) rm0_hasTurn SC 16 [] [] σ (some (.int r.1), r.2) := by
  unfold f0_hasTurn_16 at h
  refine AR.iconst (pc := 16) (v := 0) dX0_hasTurn_16 (by decide) ?_
  exact AR.zret (pc := 17) rfl (Or.inl rfl) dX0_hasTurn_17 (hrI (Option.some.inj h))
set_option maxHeartbeats 4000000 in
set_option maxRecDepth 100000 in
theorem A0_hasTurn {l : Launch} (x1 : Int32) (σ : HS) (r : Int32 × HS) (h : f0_hasTurn x1 σ = some r) : MA l yX0_hasTurn (wsU yX0_hasTurn cX0_hasTurn 2 (some .boolean)) rm0_hasTurn SC [.ref 20, .int x1] σ (some (.int r.1), r.2) := by
  refine MA.of (L := [(0, .ref 20), (1, .int x1)]) pn_X0_hasTurn rfl (fun _ => Nat.le_of_ble_eq_true rfl) (fun _ => rfl) ?_
  unfold f0_hasTurn at h
  refine AR.iload_n (pc := 0) (j := 1) dX0_hasTurn_0 rfl rfl ?_
  refine AR.if_lt (pc := 1) (tgt := 16) dX0_hasTurn_1 (by decide) (fun c1 => ?_) (fun c1 => ?_)
  · replace h := ite_t c1 h
    exact AR.pick [] rfl (A0_hasTurn_16 σ r h)
  · replace h := ite_f c1 h
    refine AR.iload_n (pc := 4) (j := 1) dX0_hasTurn_4 rfl rfl ?_
    refine AR.aload_n (pc := 5) (j := 0) dX0_hasTurn_5 rfl rfl ?_
    obtain ⟨r2, h2, h⟩ := bd_some h
    refine AR.callV (pc := 6) (As := []) (st := [.int x1]) (ci := 0) dX0_hasTurn_6 ⟨cd_X0_turns, im_X0_turns, se_X0_turns, ini_X0⟩ ml_X0_43 (A0_turns 20 grp20 σ _ h2) ⟨rfl, pd_X0_turns⟩ ⟨Nat.le_of_ble_eq_true rfl, Nat.le_of_ble_eq_true rfl⟩ ⟨rfl, rfl⟩ rfl rfl rfl (Nat.le_of_ble_eq_true rfl) ?_
    refine AR.icmp_ge (pc := 9) (tgt := 16) dX0_hasTurn_9 (by decide) (fun c3 => ?_) (fun c3 => ?_)
    · replace h := ite_t c3 h
      exact AR.pick [] rfl (A0_hasTurn_16 (r2.2) r h)
    · replace h := ite_f c3 h
      refine AR.iconst (pc := 12) (v := 1) dX0_hasTurn_12 (by decide) ?_
      refine AR.goto (pc := 13) (tgt := 17) dX0_hasTurn_13 (by decide) ?_
      exact AR.zret (pc := 17) rfl (Or.inr rfl) dX0_hasTurn_17 (hrI (Option.some.inj h))
set_option maxHeartbeats 4000000 in
set_option maxRecDepth 100000 in
theorem A0_whoIn_20 {l : Launch} (g : Nat) (hg : Grp g) (z0 : Int32) (σ : HS) (r : Int32 × HS) (h : f0_whoIn_20 g z0 σ = some r) : AR l RX0 cX0_whoIn 2 (some .int) (wsU yX0_whoIn cX0_whoIn 2 (some .int)) rm0_whoIn SC 20 [] [.int z0, .ref (g + 1)] σ (some (.int r.1), r.2) := by
  unfold f0_whoIn_20 at h
  obtain ⟨r1, h1, h⟩ := bd_some h
  refine AR.callSN (pc := 20) (As := [.ref (g + 1), .int z0]) (st := []) dX0_whoIn_20 ⟨cd_X8_at, sm_X8_at, ini_X8⟩ mn_X0_47 (A8_at (g + 1) 5 (gr1 hg) z0 σ _ h1) pd_X8_at ⟨Nat.le_of_ble_eq_true rfl, Nat.le_of_ble_eq_true rfl⟩ ⟨rfl, rfl⟩ rfl (Nat.le_of_ble_eq_true rfl) ?_
  exact AR.iret (pc := 23) rfl dX0_whoIn_23 (hrI (Option.some.inj h))
set_option maxHeartbeats 4000000 in
set_option maxRecDepth 100000 in
theorem A0_whoIn {l : Launch} (g : Nat) (hg : Grp g) (x1 : Int32) (σ : HS) (r : Int32 × HS) (h : f0_whoIn g x1 σ = some r) : MA l yX0_whoIn (wsU yX0_whoIn cX0_whoIn 2 (some .int)) rm0_whoIn SC [.ref g, .int x1] σ (some (.int r.1), r.2) := by
  refine MA.of (L := [(0, .ref g), (1, .int x1)]) pn_X0_whoIn rfl (fun _ => Nat.le_of_ble_eq_true rfl) (fun _ => rfl) ?_
  unfold f0_whoIn at h
  refine AR.aload_n (pc := 0) (j := 0) dX0_whoIn_0 rfl rfl ?_
  refine AR.getf (pc := 1) (ci := 0) (j := 1) (d := (g + 1) + 2) (v := .ref (g + 1)) (T := TX0) dX0_whoIn_1 (gr0 hg) rfl rfl (by decide) (fun w hw => wsU_in (uw_X0 w hw)) (wsU_in fl_X0_9) rfl ?_
  refine AR.iload_n (pc := 4) (j := 1) dX0_whoIn_4 rfl rfl ?_
  refine AR.aload_n (pc := 5) (j := 0) dX0_whoIn_5 rfl rfl ?_
  refine AR.getf (pc := 6) (ci := 0) (j := 0) (d := 5 + 2) (v := .ref 5) (T := TX0) dX0_whoIn_6 (gr0 hg) rfl rfl (by decide) (fun w hw => wsU_in (uw_X0 w hw)) (wsU_in fl_X0_22) rfl ?_
  refine AR.getfN (pc := 9) (ci := 4) (j := 0) (d := 0) (v := .int (σ.1 5 0)) (T := TX4) dX0_whoIn_9 rfl rfl rfl (by decide) (fun w hw => wsU_in (uw_X4 w hw)) fn_X0_40 rfl ?_
  refine AR.icmp_ge (pc := 12) (tgt := 19) dX0_whoIn_12 (by decide) (fun c1 => ?_) (fun c1 => ?_)
  · replace h := ite_t c1 h
    refine AR.iconst (pc := 19) (v := 0) dX0_whoIn_19 (by decide) ?_
    exact AR.pick [] rfl (A0_whoIn_20 g hg 0 σ r h)
  · replace h := ite_f c1 h
    refine AR.iload_n (pc := 15) (j := 1) dX0_whoIn_15 rfl rfl ?_
    refine AR.goto (pc := 16) (tgt := 20) dX0_whoIn_16 (by decide) ?_
    exact AR.pick [] rfl (A0_whoIn_20 g hg x1 σ r h)
set_option maxHeartbeats 4000000 in
set_option maxRecDepth 100000 in
theorem A0_placeOf_2_b {l : Launch} (k2 : Int32 × HS → Option (Int32 × HS)) (x1 : Int32) (x2 : Int32) (hk2 : ∀ (p : Int32 × HS) (r : Int32 × HS), k2 p = some r → AR l RX0 cX0_placeOf 3 (some .int) (wsU yX0_placeOf cX0_placeOf 3 (some .int)) rm0_placeOf SC 2 [(0, .ref 20), (1, .int x1), (2, .int (p.1))] [] p.2 (some (.int r.1), r.2)) (σ : HS) (r : Int32 × HS) (h : f0_placeOf_2_b k2 x1 x2 σ = some r) : AR l RX0 cX0_placeOf 3 (some .int) (wsU yX0_placeOf cX0_placeOf 3 (some .int)) rm0_placeOf SC 2 [(0, .ref 20), (1, .int x1), (2, .int x2)] [] σ (some (.int r.1), r.2) := by
  unfold f0_placeOf_2_b at h
  refine AR.iload_n (pc := 2) (j := 2) dX0_placeOf_2 rfl rfl ?_
  refine AR.aload_n (pc := 3) (j := 0) dX0_placeOf_3 rfl rfl ?_
  refine AR.getf (pc := 4) (ci := 0) (j := 0) (d := 5 + 2) (v := .ref 5) (T := TX0) dX0_placeOf_4 rfl rfl rfl (by decide) (fun w hw => wsU_in (uw_X0 w hw)) (wsU_in fl_X0_22) rfl ?_
  refine AR.getfN (pc := 7) (ci := 4) (j := 0) (d := 0) (v := .int (σ.1 5 0)) (T := TX4) dX0_placeOf_7 rfl rfl rfl (by decide) (fun w hw => wsU_in (uw_X4 w hw)) fn_X0_40 rfl ?_
  refine AR.icmp_ge (pc := 10) (tgt := 35) dX0_placeOf_10 (by decide) (fun c1 => ?_) (fun c1 => ?_)
  · replace h := ite_t c1 h
    refine AR.iconst (pc := 35) (v := (-1)) dX0_placeOf_35 (by decide) ?_
    exact AR.iret (pc := 36) rfl dX0_placeOf_36 (hrI (Option.some.inj h))
  · replace h := ite_f c1 h
    refine AR.iload_n (pc := 13) (j := 2) dX0_placeOf_13 rfl rfl ?_
    refine AR.iconst (pc := 14) (v := 5) dX0_placeOf_14 (by decide) ?_
    refine AR.icmp_ge (pc := 15) (tgt := 35) dX0_placeOf_15 (by decide) (fun c2 => ?_) (fun c2 => ?_)
    · replace h := ite_t c2 h
      refine AR.iconst (pc := 35) (v := (-1)) dX0_placeOf_35 (by decide) ?_
      exact AR.iret (pc := 36) rfl dX0_placeOf_36 (hrI (Option.some.inj h))
    · replace h := ite_f c2 h
      refine AR.aload_n (pc := 18) (j := 0) dX0_placeOf_18 rfl rfl ?_
      refine AR.iload_n (pc := 19) (j := 2) dX0_placeOf_19 rfl rfl ?_
      obtain ⟨r3, h3, h⟩ := bd_some h
      refine AR.callV (pc := 20) (As := [.int x2]) (st := []) (ci := 0) dX0_placeOf_20 ⟨cd_X0_whoAt, im_X0_whoAt, se_X0_whoAt, ini_X0⟩ ml_X0_36 (A0_whoAt 20 grp20 x2 σ _ h3) ⟨rfl, pd_X0_whoAt⟩ ⟨Nat.le_of_ble_eq_true rfl, Nat.le_of_ble_eq_true rfl⟩ ⟨rfl, rfl⟩ rfl rfl rfl (Nat.le_of_ble_eq_true rfl) ?_
      refine AR.iload_n (pc := 23) (j := 1) dX0_placeOf_23 rfl rfl ?_
      refine AR.icmp_ne (pc := 24) (tgt := 29) dX0_placeOf_24 (by decide) (fun c4 => ?_) (fun c4 => ?_)
      · replace h := ite_f c4 h
        refine AR.iinc (pc := 29) (j := 2) (v := (x2 + 1)) (L2 := [(2, .int (x2 + 1)), (0, .ref 20), (1, .int x1)]) dX0_placeOf_29 rfl rfl (by decide) rfl ?_
        refine AR.goto (pc := 32) (tgt := 2) dX0_placeOf_32 (by decide) ?_
        exact AR.pick [1, 2, 0] rfl (hk2 ((x2 + 1), r3.2) r h)
      · replace h := ite_t c4 h
        refine AR.iload_n (pc := 27) (j := 2) dX0_placeOf_27 rfl rfl ?_
        exact AR.iret (pc := 28) rfl dX0_placeOf_28 (hrI (Option.some.inj h))
theorem A0_placeOf_2 {l : Launch} (x1 : Int32) (p : Int32 × HS) (r : Int32 × HS) (h : f0_placeOf_2 x1 p = some r) : AR l RX0 cX0_placeOf 3 (some .int) (wsU yX0_placeOf cX0_placeOf 3 (some .int)) rm0_placeOf SC 2 [(0, .ref 20), (1, .int x1), (2, .int (p.1))] [] p.2 (some (.int r.1), r.2) := by
  unfold f0_placeOf_2 at h
  exact wloop_run (body := fun k2 p => f0_placeOf_2_b k2 x1 p.1 p.2) (Q := fun p r => AR l RX0 cX0_placeOf 3 (some .int) (wsU yX0_placeOf cX0_placeOf 3 (some .int)) rm0_placeOf SC 2 [(0, .ref 20), (1, .int x1), (2, .int (p.1))] [] p.2 (some (.int r.1), r.2)) (fun k2 hk2 p r h => A0_placeOf_2_b k2 x1 p.1 hk2 p.2 r h) fuelN p r h
set_option maxHeartbeats 4000000 in
set_option maxRecDepth 100000 in
theorem A0_placeOf {l : Launch} (x1 : Int32) (σ : HS) (r : Int32 × HS) (h : f0_placeOf x1 σ = some r) : MA l yX0_placeOf (wsU yX0_placeOf cX0_placeOf 3 (some .int)) rm0_placeOf SC [.ref 20, .int x1] σ (some (.int r.1), r.2) := by
  refine MA.of (L := [(0, .ref 20), (1, .int x1)]) pn_X0_placeOf rfl (fun _ => Nat.le_of_ble_eq_true rfl) (fun _ => rfl) ?_
  unfold f0_placeOf at h
  refine AR.iconst (pc := 0) (v := 0) dX0_placeOf_0 (by decide) ?_
  refine AR.istore_n (pc := 1) (L2 := [(2, .int 0), (0, .ref 20), (1, .int x1)]) dX0_placeOf_1 rfl (by decide) rfl ?_
  exact AR.pick [1, 2, 0] rfl (A0_placeOf_2 x1 (0, σ) r h)
set_option maxHeartbeats 4000000 in
set_option maxRecDepth 100000 in
theorem A0_exchange {l : Launch} (g : Nat) (hg : Grp g) (x1 : Int32) (x2 : Int32) (σ : HS) (r : HS) (h : f0_exchange g x1 x2 σ = some r) : MA l yX0_exchange (wsU yX0_exchange cX0_exchange 4 none) rm0_exchange SC [.ref g, .int x1, .int x2] σ (none, r) := by
  refine MA.of (L := [(0, .ref g), (1, .int x1), (2, .int x2)]) pn_X0_exchange rfl (fun _ => Nat.le_of_ble_eq_true rfl) (fun _ => rfl) ?_
  unfold f0_exchange at h
  refine AR.aload_n (pc := 0) (j := 0) dX0_exchange_0 rfl rfl ?_
  refine AR.iload_n (pc := 1) (j := 1) dX0_exchange_1 rfl rfl ?_
  obtain ⟨r1, h1, h⟩ := bd_some h
  refine AR.callV (pc := 2) (As := [.int x1]) (st := []) (ci := 0) dX0_exchange_2 ⟨cd_X0_whoAt, im_X0_whoAt, se_X0_whoAt, ini_X0⟩ ml_X0_36 (A0_whoAt g hg x1 σ _ h1) ⟨rfl, pd_X0_whoAt⟩ ⟨Nat.le_of_ble_eq_true rfl, Nat.le_of_ble_eq_true rfl⟩ ⟨rfl, rfl⟩ (gr0 hg) rfl rfl (Nat.le_of_ble_eq_true rfl) ?_
  refine AR.istore_n (pc := 5) (L2 := [(3, .int (r1.1)), (0, .ref g), (1, .int x1), (2, .int x2)]) dX0_exchange_5 rfl (by decide) rfl ?_
  refine AR.aload_n (pc := 6) (j := 1) dX0_exchange_6 rfl rfl ?_
  refine AR.getf (pc := 7) (ci := 0) (j := 1) (d := (g + 1) + 2) (v := .ref (g + 1)) (T := TX0) dX0_exchange_7 (gr0 hg) rfl rfl (by decide) (fun w hw => wsU_in (uw_X0 w hw)) (wsU_in fl_X0_9) rfl ?_
  refine AR.iload_n (pc := 10) (j := 2) dX0_exchange_10 rfl rfl ?_
  refine AR.aload_n (pc := 11) (j := 1) dX0_exchange_11 rfl rfl ?_
  refine AR.iload_n (pc := 12) (j := 3) dX0_exchange_12 rfl rfl ?_
  obtain ⟨r2, h2, h⟩ := bd_some h
  refine AR.callV (pc := 13) (As := [.int x2]) (st := [.int x1, .ref (g + 1)]) (ci := 0) dX0_exchange_13 ⟨cd_X0_whoAt, im_X0_whoAt, se_X0_whoAt, ini_X0⟩ ml_X0_36 (A0_whoAt g hg x2 (r1.2) _ h2) ⟨rfl, pd_X0_whoAt⟩ ⟨Nat.le_of_ble_eq_true rfl, Nat.le_of_ble_eq_true rfl⟩ ⟨rfl, rfl⟩ (gr0 hg) rfl rfl (Nat.le_of_ble_eq_true rfl) ?_
  obtain ⟨r3, h3, h⟩ := bd_some h
  refine AR.callSN (pc := 16) (As := [.ref (g + 1), .int x1, .int (r2.1)]) (st := []) dX0_exchange_16 ⟨cd_X8_set, sm_X8_set, ini_X8⟩ mn_X0_32 (A8_set (g + 1) 5 (gr1 hg) x1 (r2.1) (r2.2) _ h3) pd_X8_set ⟨Nat.le_of_ble_eq_true rfl, Nat.le_of_ble_eq_true rfl⟩ ⟨rfl, rfl⟩ rfl (Nat.le_of_ble_eq_true rfl) ?_
  refine AR.aload_n (pc := 19) (j := 1) dX0_exchange_19 rfl rfl ?_
  refine AR.getf (pc := 20) (ci := 0) (j := 1) (d := (g + 1) + 2) (v := .ref (g + 1)) (T := TX0) dX0_exchange_20 (gr0 hg) rfl rfl (by decide) (fun w hw => wsU_in (uw_X0 w hw)) (wsU_in fl_X0_9) rfl ?_
  refine AR.iload_n (pc := 23) (j := 3) dX0_exchange_23 rfl rfl ?_
  refine AR.iload_n (pc := 24) (j := 0) dX0_exchange_24 rfl rfl ?_
  obtain ⟨r4, h4, h⟩ := bd_some h
  refine AR.callSN (pc := 25) (As := [.ref (g + 1), .int x2, .int (r1.1)]) (st := []) dX0_exchange_25 ⟨cd_X8_set, sm_X8_set, ini_X8⟩ mn_X0_32 (A8_set (g + 1) 5 (gr1 hg) x2 (r1.1) r3 _ h4) pd_X8_set ⟨Nat.le_of_ble_eq_true rfl, Nat.le_of_ble_eq_true rfl⟩ ⟨rfl, rfl⟩ rfl (Nat.le_of_ble_eq_true rfl) ?_
  exact AR.vret (pc := 28) rfl dX0_exchange_28 (hrV (Option.some.inj h))
set_option maxHeartbeats 4000000 in
set_option maxRecDepth 100000 in
theorem A0_firstWater_36 {l : Launch} (g : Nat) (hg : Grp g) (σ : HS) (r : Int32 × HS) (h : f0_firstWater_36 g σ = some r) : AR l RX0 cX0_firstWater 1 (some .int) (wsU yX0_firstWater cX0_firstWater 1 (some .int)) rm0_firstWater SC 36 [(0, .ref g)] [] σ (some (.int r.1), r.2) := by
  unfold f0_firstWater_36 at h
  refine AR.aload_n (pc := 36) (j := 0) dX0_firstWater_36 rfl rfl ?_
  refine AR.getf (pc := 37) (ci := 0) (j := 0) (d := 5 + 2) (v := .ref 5) (T := TX0) dX0_firstWater_37 (gr0 hg) rfl rfl (by decide) (fun w hw => wsU_in (uw_X0 w hw)) (wsU_in fl_X0_22) rfl ?_
  refine AR.getfN (pc := 40) (ci := 4) (j := 1) (d := 0) (v := .int (σ.1 5 1)) (T := TX4) dX0_firstWater_40 rfl rfl rfl (by decide) (fun w hw => wsU_in (uw_X4 w hw)) fn_X0_51 rfl ?_
  exact AR.iret (pc := 43) rfl dX0_firstWater_43 (hrI (Option.some.inj h))
set_option maxHeartbeats 4000000 in
set_option maxRecDepth 100000 in
theorem A0_firstWater {l : Launch} (g : Nat) (hg : Grp g) (σ : HS) (r : Int32 × HS) (h : f0_firstWater g σ = some r) : MA l yX0_firstWater (wsU yX0_firstWater cX0_firstWater 1 (some .int)) rm0_firstWater SC [.ref g] σ (some (.int r.1), r.2) := by
  refine MA.of (L := [(0, .ref g)]) pn_X0_firstWater rfl (fun _ => Nat.le_of_ble_eq_true rfl) (fun _ => rfl) ?_
  unfold f0_firstWater at h
  refine AR.aload_n (pc := 0) (j := 0) dX0_firstWater_0 rfl rfl ?_
  refine AR.getf (pc := 1) (ci := 0) (j := 2) (d := 0) (v := .int (σ.1 g 2)) (T := TX0) dX0_firstWater_1 (gr0 hg) rfl rfl (by decide) (fun w hw => wsU_in (uw_X0 w hw)) (wsU_in fl_X0_15) rfl ?_
  refine AR.iconst (pc := 4) (v := 1) dX0_firstWater_4 (by decide) ?_
  refine AR.icmp_ne (pc := 5) (tgt := 36) dX0_firstWater_5 (by decide) (fun c1 => ?_) (fun c1 => ?_)
  · replace h := ite_f c1 h
    exact AR.pick [0] rfl (A0_firstWater_36 g hg σ r h)
  · replace h := ite_t c1 h
    refine AR.aload_n (pc := 8) (j := 0) dX0_firstWater_8 rfl rfl ?_
    refine AR.getf (pc := 9) (ci := 0) (j := 0) (d := 5 + 2) (v := .ref 5) (T := TX0) dX0_firstWater_9 (gr0 hg) rfl rfl (by decide) (fun w hw => wsU_in (uw_X0 w hw)) (wsU_in fl_X0_22) rfl ?_
    refine AR.getfN (pc := 12) (ci := 4) (j := 0) (d := 0) (v := .int (σ.1 5 0)) (T := TX4) dX0_firstWater_12 rfl rfl rfl (by decide) (fun w hw => wsU_in (uw_X4 w hw)) fn_X0_40 rfl ?_
    refine AR.if_le (pc := 15) (tgt := 36) dX0_firstWater_15 (by decide) (fun c2 => ?_) (fun c2 => ?_)
    · replace h := ite_t c2 h
      exact AR.pick [0] rfl (A0_firstWater_36 g hg σ r h)
    · replace h := ite_f c2 h
      refine AR.aload_n (pc := 18) (j := 0) dX0_firstWater_18 rfl rfl ?_
      refine AR.getf (pc := 19) (ci := 0) (j := 0) (d := 5 + 2) (v := .ref 5) (T := TX0) dX0_firstWater_19 (gr0 hg) rfl rfl (by decide) (fun w hw => wsU_in (uw_X0 w hw)) (wsU_in fl_X0_22) rfl ?_
      refine AR.getfN (pc := 22) (ci := 4) (j := 1) (d := 0) (v := .int (σ.1 5 1)) (T := TX4) dX0_firstWater_22 rfl rfl rfl (by decide) (fun w hw => wsU_in (uw_X4 w hw)) fn_X0_51 rfl ?_
      refine AR.aload_n (pc := 25) (j := 0) dX0_firstWater_25 rfl rfl ?_
      refine AR.getf (pc := 26) (ci := 0) (j := 0) (d := 5 + 2) (v := .ref 5) (T := TX0) dX0_firstWater_26 (gr0 hg) rfl rfl (by decide) (fun w hw => wsU_in (uw_X0 w hw)) (wsU_in fl_X0_22) rfl ?_
      refine AR.getfN (pc := 29) (ci := 4) (j := 0) (d := 0) (v := .int (σ.1 5 0)) (T := TX4) dX0_firstWater_29 rfl rfl rfl (by decide) (fun w hw => wsU_in (uw_X4 w hw)) fn_X0_40 rfl ?_
      obtain ⟨c3, h⟩ := gn_some h
      refine AR.idiv (pc := 32) dX0_firstWater_32 c3 ?_
      refine AR.goto (pc := 33) (tgt := 43) dX0_firstWater_33 (by decide) ?_
      exact AR.iret (pc := 43) rfl dX0_firstWater_43 (hrI (Option.some.inj h))
set_option maxHeartbeats 4000000 in
set_option maxRecDepth 100000 in
theorem A0_waterBehind_31 {l : Launch} (g : Nat) (hg : Grp g) (z0 : Int32) (σ : HS) (r : Int32 × HS) (h : f0_waterBehind_31 g z0 σ = some r) : AR l RX0 cX0_waterBehind 3 (some .int) (wsU yX0_waterBehind cX0_waterBehind 3 (some .int)) rm0_waterBehind SC 31 [(0, .ref g)] [.int z0] σ (some (.int r.1), r.2) := by
  unfold f0_waterBehind_31 at h
  refine AR.istore_n (pc := 31) (L2 := [(2, .int z0), (0, .ref g)]) dX0_waterBehind_31 rfl (by decide) rfl ?_
  refine AR.aload_n (pc := 32) (j := 1) dX0_waterBehind_32 rfl rfl ?_
  refine AR.getf (pc := 33) (ci := 0) (j := 2) (d := 0) (v := .int (σ.1 g 2)) (T := TX0) dX0_waterBehind_33 (gr0 hg) rfl rfl (by decide) (fun w hw => wsU_in (uw_X0 w hw)) (wsU_in fl_X0_15) rfl ?_
  refine AR.iconst (pc := 36) (v := 2) dX0_waterBehind_36 (by decide) ?_
  refine AR.icmp_ne (pc := 37) (tgt := 46) dX0_waterBehind_37 (by decide) (fun c1 => ?_) (fun c1 => ?_)
  · replace h := ite_f c1 h
    refine AR.iload_n (pc := 46) (j := 0) dX0_waterBehind_46 rfl rfl ?_
    exact AR.iret (pc := 47) rfl dX0_waterBehind_47 (hrI (Option.some.inj h))
  · replace h := ite_t c1 h
    refine AR.iload_n (pc := 40) (j := 0) dX0_waterBehind_40 rfl rfl ?_
    refine AR.iconst (pc := 41) (v := 2) dX0_waterBehind_41 (by decide) ?_
    refine AR.idiv (pc := 42) dX0_waterBehind_42 (by decide) ?_
    refine AR.goto (pc := 43) (tgt := 47) dX0_waterBehind_43 (by decide) ?_
    exact AR.iret (pc := 47) rfl dX0_waterBehind_47 (hrI (Option.some.inj h))
set_option maxHeartbeats 4000000 in
set_option maxRecDepth 100000 in
theorem A0_waterBehind {l : Launch} (g : Nat) (hg : Grp g) (x1 : Int32) (σ : HS) (r : Int32 × HS) (h : f0_waterBehind g x1 σ = some r) : MA l yX0_waterBehind (wsU yX0_waterBehind cX0_waterBehind 3 (some .int)) rm0_waterBehind SC [.ref g, .int x1] σ (some (.int r.1), r.2) := by
  refine MA.of (L := [(0, .ref g), (1, .int x1)]) pn_X0_waterBehind rfl (fun _ => Nat.le_of_ble_eq_true rfl) (fun _ => rfl) ?_
  unfold f0_waterBehind at h
  refine AR.aload_n (pc := 0) (j := 0) dX0_waterBehind_0 rfl rfl ?_
  refine AR.getf (pc := 1) (ci := 0) (j := 2) (d := 0) (v := .int (σ.1 g 2)) (T := TX0) dX0_waterBehind_1 (gr0 hg) rfl rfl (by decide) (fun w hw => wsU_in (uw_X0 w hw)) (wsU_in fl_X0_15) rfl ?_
  refine AR.iconst (pc := 4) (v := 1) dX0_waterBehind_4 (by decide) ?_
  refine AR.icmp_ne (pc := 5) (tgt := 13) dX0_waterBehind_5 (by decide) (fun c1 => ?_) (fun c1 => ?_)
  · replace h := ite_f c1 h
    refine AR.iload_n (pc := 13) (j := 1) dX0_waterBehind_13 rfl rfl ?_
    refine AR.aload_n (pc := 14) (j := 0) dX0_waterBehind_14 rfl rfl ?_
    refine AR.getf (pc := 15) (ci := 0) (j := 3) (d := 0) (v := .int (σ.1 g 3)) (T := TX0) dX0_waterBehind_15 (gr0 hg) rfl rfl (by decide) (fun w hw => wsU_in (uw_X0 w hw)) (wsU_in fl_X0_19) rfl ?_
    refine AR.icmp_le (pc := 18) (tgt := 30) dX0_waterBehind_18 (by decide) (fun c2 => ?_) (fun c2 => ?_)
    · replace h := ite_t c2 h
      refine AR.iconst (pc := 30) (v := 0) dX0_waterBehind_30 (by decide) ?_
      exact AR.pick [0] rfl (A0_waterBehind_31 g hg 0 σ r h)
    · replace h := ite_f c2 h
      refine AR.iload_n (pc := 21) (j := 1) dX0_waterBehind_21 rfl rfl ?_
      refine AR.aload_n (pc := 22) (j := 0) dX0_waterBehind_22 rfl rfl ?_
      refine AR.getf (pc := 23) (ci := 0) (j := 3) (d := 0) (v := .int (σ.1 g 3)) (T := TX0) dX0_waterBehind_23 (gr0 hg) rfl rfl (by decide) (fun w hw => wsU_in (uw_X0 w hw)) (wsU_in fl_X0_19) rfl ?_
      refine AR.isub (pc := 26) dX0_waterBehind_26 ?_
      refine AR.goto (pc := 27) (tgt := 31) dX0_waterBehind_27 (by decide) ?_
      exact AR.pick [0] rfl (A0_waterBehind_31 g hg (x1 - (σ.1 g 3)) σ r h)
  · replace h := ite_t c1 h
    refine AR.aload_n (pc := 8) (j := 0) dX0_waterBehind_8 rfl rfl ?_
    obtain ⟨r3, h3, h⟩ := bd_some h
    refine AR.callV (pc := 9) (As := []) (st := []) (ci := 0) dX0_waterBehind_9 ⟨cd_X0_firstWater, im_X0_firstWater, se_X0_firstWater, ini_X0⟩ ml_X0_54 (A0_firstWater g hg σ _ h3) ⟨rfl, pd_X0_firstWater⟩ ⟨Nat.le_of_ble_eq_true rfl, Nat.le_of_ble_eq_true rfl⟩ ⟨rfl, rfl⟩ (gr0 hg) rfl rfl (Nat.le_of_ble_eq_true rfl) ?_
    exact AR.iret (pc := 12) rfl dX0_waterBehind_12 (hrI (Option.some.inj h))
set_option maxHeartbeats 4000000 in
set_option maxRecDepth 100000 in
theorem A0_takeNextOrder_117_b {l : Launch} (k117 : Int32 × Int32 × HS → Option (Int32 × HS)) (x3 : Int32) (x4 : Int32) (hk117 : ∀ (p : Int32 × Int32 × HS) (r : Int32 × HS), k117 p = some r → AR l RX0 cX0_takeNextOrder 5 (some .boolean) (wsU yX0_takeNextOrder cX0_takeNextOrder 5 (some .boolean)) rm0_takeNextOrder SC 117 [(0, .ref 30), (3, .int (p.1)), (4, .int (p.2.1))] [] p.2.2 (some (.int r.1), r.2)) (σ : HS) (r : Int32 × HS) (h : f0_takeNextOrder_117_b k117 x3 x4 σ = some r) : AR l RX0 cX0_takeNextOrder 5 (some .boolean) (wsU yX0_takeNextOrder cX0_takeNextOrder 5 (some .boolean)) rm0_takeNextOrder SC 117 [(0, .ref 30), (3, .int x3), (4, .int x4)] [] σ (some (.int r.1), r.2) := by
  unfold f0_takeNextOrder_117_b at h
  refine AR.iload (pc := 117) (j := 2) dX0_takeNextOrder_117 rfl ?_
  refine AR.iload_n (pc := 119) (j := 1) dX0_takeNextOrder_119 rfl rfl ?_
  refine AR.icmp_le (pc := 120) (tgt := 139) dX0_takeNextOrder_120 (by decide) (fun c1 => ?_) (fun c1 => ?_)
  · replace h := ite_t c1 h
    refine AR.iconst (pc := 139) (v := 1) dX0_takeNextOrder_139 (by decide) ?_
    exact AR.zret (pc := 140) rfl (Or.inr rfl) dX0_takeNextOrder_140 (hrI (Option.some.inj h))
  · replace h := ite_f c1 h
    refine AR.aload_n (pc := 123) (j := 0) dX0_takeNextOrder_123 rfl rfl ?_
    refine AR.iload_n (pc := 124) (j := 1) dX0_takeNextOrder_124 rfl rfl ?_
    refine AR.iload (pc := 125) (j := 2) dX0_takeNextOrder_125 rfl ?_
    obtain ⟨r2, h2, h⟩ := bd_some h
    refine AR.callV (pc := 127) (As := [.int x3, .int x4]) (st := []) (ci := 0) dX0_takeNextOrder_127 ⟨cd_X0_exchange, im_X0_exchange, se_X0_exchange, ini_X0⟩ ml_X0_57 (A0_exchange 30 grp30 x3 x4 σ _ h2) ⟨rfl, pd_X0_exchange⟩ ⟨Nat.le_of_ble_eq_true rfl, Nat.le_of_ble_eq_true rfl⟩ ⟨rfl, rfl⟩ rfl rfl rfl (Nat.le_of_ble_eq_true rfl) ?_
    refine AR.iinc (pc := 130) (j := 1) (v := (x3 + 1)) (L2 := [(3, .int (x3 + 1)), (0, .ref 30), (4, .int x4)]) dX0_takeNextOrder_130 rfl rfl (by decide) rfl ?_
    refine AR.iinc (pc := 133) (j := 2) (v := (x4 + (-1))) (L2 := [(4, .int (x4 + (-1))), (3, .int (x3 + 1)), (0, .ref 30)]) dX0_takeNextOrder_133 rfl rfl (by decide) rfl ?_
    refine AR.goto (pc := 136) (tgt := 117) dX0_takeNextOrder_136 (by decide) ?_
    exact AR.pick [2, 1, 0] rfl (hk117 ((x3 + 1), (x4 + (-1)), r2) r h)
theorem A0_takeNextOrder_117 {l : Launch} (p : Int32 × Int32 × HS) (r : Int32 × HS) (h : f0_takeNextOrder_117 p = some r) : AR l RX0 cX0_takeNextOrder 5 (some .boolean) (wsU yX0_takeNextOrder cX0_takeNextOrder 5 (some .boolean)) rm0_takeNextOrder SC 117 [(0, .ref 30), (3, .int (p.1)), (4, .int (p.2.1))] [] p.2.2 (some (.int r.1), r.2) := by
  unfold f0_takeNextOrder_117 at h
  exact wloop_run (body := fun k117 p => f0_takeNextOrder_117_b k117 p.1 p.2.1 p.2.2) (Q := fun p r => AR l RX0 cX0_takeNextOrder 5 (some .boolean) (wsU yX0_takeNextOrder cX0_takeNextOrder 5 (some .boolean)) rm0_takeNextOrder SC 117 [(0, .ref 30), (3, .int (p.1)), (4, .int (p.2.1))] [] p.2.2 (some (.int r.1), r.2)) (fun k117 hk117 p r h => A0_takeNextOrder_117_b k117 p.1 p.2.1 hk117 p.2.2 r h) fuelN p r h
set_option maxHeartbeats 4000000 in
set_option maxRecDepth 100000 in
theorem A0_takeNextOrder_96 {l : Launch} (x1 : Int32) (x2 : Int32) (σ : HS) (r : Int32 × HS) (h : f0_takeNextOrder_96 x1 x2 σ = some r) : AR l RX0 cX0_takeNextOrder 5 (some .boolean) (wsU yX0_takeNextOrder cX0_takeNextOrder 5 (some .boolean)) rm0_takeNextOrder SC 96 [(0, .ref 30), (1, .int x1), (2, .int x2)] [] σ (some (.int r.1), r.2) := by
  unfold f0_takeNextOrder_96 at h
  refine AR.aload_n (pc := 96) (j := 0) dX0_takeNextOrder_96 rfl rfl ?_
  refine AR.iload_n (pc := 97) (j := 1) dX0_takeNextOrder_97 rfl rfl ?_
  refine AR.iload_n (pc := 98) (j := 2) dX0_takeNextOrder_98 rfl rfl ?_
  obtain ⟨r1, h1, h⟩ := bd_some h
  refine AR.callV (pc := 99) (As := [.int x1, .int x2]) (st := []) (ci := 0) dX0_takeNextOrder_99 ⟨cd_X0_exchange, im_X0_exchange, se_X0_exchange, ini_X0⟩ ml_X0_57 (A0_exchange 30 grp30 x1 x2 σ _ h1) ⟨rfl, pd_X0_exchange⟩ ⟨Nat.le_of_ble_eq_true rfl, Nat.le_of_ble_eq_true rfl⟩ ⟨rfl, rfl⟩ rfl rfl rfl (Nat.le_of_ble_eq_true rfl) ?_
  refine AR.iload_n (pc := 102) (j := 1) dX0_takeNextOrder_102 rfl rfl ?_
  refine AR.iconst (pc := 103) (v := 1) dX0_takeNextOrder_103 (by decide) ?_
  refine AR.iadd (pc := 104) dX0_takeNextOrder_104 ?_
  refine AR.istore_n (pc := 105) (L2 := [(3, .int (x1 + 1)), (0, .ref 30), (1, .int x1), (2, .int x2)]) dX0_takeNextOrder_105 rfl (by decide) rfl ?_
  refine AR.aload_n (pc := 106) (j := 1) dX0_takeNextOrder_106 rfl rfl ?_
  refine AR.getf (pc := 107) (ci := 0) (j := 0) (d := 5 + 2) (v := .ref 5) (T := TX0) dX0_takeNextOrder_107 rfl rfl rfl (by decide) (fun w hw => wsU_in (uw_X0 w hw)) (wsU_in fl_X0_22) rfl ?_
  refine AR.getfN (pc := 110) (ci := 4) (j := 0) (d := 0) (v := .int (r1.1 5 0)) (T := TX4) dX0_takeNextOrder_110 rfl rfl rfl (by decide) (fun w hw => wsU_in (uw_X4 w hw)) fn_X0_40 rfl ?_
  refine AR.iconst (pc := 113) (v := 1) dX0_takeNextOrder_113 (by decide) ?_
  refine AR.isub (pc := 114) dX0_takeNextOrder_114 ?_
  refine AR.istore (pc := 115) (L2 := [(4, .int ((r1.1 5 0) - 1)), (3, .int (x1 + 1)), (0, .ref 30), (1, .int x1), (2, .int x2)]) dX0_takeNextOrder_115 (by decide) rfl ?_
  exact AR.pick [2, 1, 0] rfl (A0_takeNextOrder_117 ((x1 + 1), ((r1.1 5 0) - 1), r1) r h)
set_option maxHeartbeats 4000000 in
set_option maxRecDepth 100000 in
theorem A0_takeNextOrder_90 {l : Launch} (k59 : Int32 × Int32 × HS → Option (Int32 × HS)) (x1 : Int32) (x2 : Int32) (x3 : Int32) (hk59 : ∀ (p : Int32 × Int32 × HS) (r : Int32 × HS), k59 p = some r → AR l RX0 cX0_takeNextOrder 5 (some .boolean) (wsU yX0_takeNextOrder cX0_takeNextOrder 5 (some .boolean)) rm0_takeNextOrder SC 59 [(0, .ref 30), (1, .int x1), (2, .int (p.1)), (3, .int (p.2.1))] [] p.2.2 (some (.int r.1), r.2)) (σ : HS) (r : Int32 × HS) (h : f0_takeNextOrder_90 k59 x1 x2 x3 σ = some r) : AR l RX0 cX0_takeNextOrder 5 (some .boolean) (wsU yX0_takeNextOrder cX0_takeNextOrder 5 (some .boolean)) rm0_takeNextOrder SC 90 [(0, .ref 30), (1, .int x1), (2, .int x2), (3, .int x3)] [] σ (some (.int r.1), r.2) := by
  unfold f0_takeNextOrder_90 at h
  refine AR.iinc (pc := 90) (j := 3) (v := (x3 + 1)) (L2 := [(3, .int (x3 + 1)), (0, .ref 30), (1, .int x1), (2, .int x2)]) dX0_takeNextOrder_90 rfl rfl (by decide) rfl ?_
  refine AR.goto (pc := 93) (tgt := 59) dX0_takeNextOrder_93 (by decide) ?_
  exact AR.pick [1, 2, 3, 0] rfl (hk59 (x2, (x3 + 1), σ) r h)
set_option maxHeartbeats 4000000 in
set_option maxRecDepth 100000 in
theorem A0_takeNextOrder_59_b {l : Launch} (k59 : Int32 × Int32 × HS → Option (Int32 × HS)) (x1 : Int32) (x2 : Int32) (x3 : Int32) (hk59 : ∀ (p : Int32 × Int32 × HS) (r : Int32 × HS), k59 p = some r → AR l RX0 cX0_takeNextOrder 5 (some .boolean) (wsU yX0_takeNextOrder cX0_takeNextOrder 5 (some .boolean)) rm0_takeNextOrder SC 59 [(0, .ref 30), (1, .int x1), (2, .int (p.1)), (3, .int (p.2.1))] [] p.2.2 (some (.int r.1), r.2)) (σ : HS) (r : Int32 × HS) (h : f0_takeNextOrder_59_b k59 x1 x2 x3 σ = some r) : AR l RX0 cX0_takeNextOrder 5 (some .boolean) (wsU yX0_takeNextOrder cX0_takeNextOrder 5 (some .boolean)) rm0_takeNextOrder SC 59 [(0, .ref 30), (1, .int x1), (2, .int x2), (3, .int x3)] [] σ (some (.int r.1), r.2) := by
  unfold f0_takeNextOrder_59_b at h
  refine AR.iload_n (pc := 59) (j := 3) dX0_takeNextOrder_59 rfl rfl ?_
  refine AR.aload_n (pc := 60) (j := 0) dX0_takeNextOrder_60 rfl rfl ?_
  refine AR.getf (pc := 61) (ci := 0) (j := 0) (d := 5 + 2) (v := .ref 5) (T := TX0) dX0_takeNextOrder_61 rfl rfl rfl (by decide) (fun w hw => wsU_in (uw_X0 w hw)) (wsU_in fl_X0_22) rfl ?_
  refine AR.getfN (pc := 64) (ci := 4) (j := 0) (d := 0) (v := .int (σ.1 5 0)) (T := TX4) dX0_takeNextOrder_64 rfl rfl rfl (by decide) (fun w hw => wsU_in (uw_X4 w hw)) fn_X0_40 rfl ?_
  refine AR.icmp_ge (pc := 67) (tgt := 96) dX0_takeNextOrder_67 (by decide) (fun c1 => ?_) (fun c1 => ?_)
  · replace h := ite_t c1 h
    exact AR.pick [0, 1, 2] rfl (A0_takeNextOrder_96 x1 x2 σ r h)
  · replace h := ite_f c1 h
    refine AR.iload_n (pc := 70) (j := 3) dX0_takeNextOrder_70 rfl rfl ?_
    refine AR.iconst (pc := 71) (v := 5) dX0_takeNextOrder_71 (by decide) ?_
    refine AR.icmp_ge (pc := 72) (tgt := 96) dX0_takeNextOrder_72 (by decide) (fun c2 => ?_) (fun c2 => ?_)
    · replace h := ite_t c2 h
      exact AR.pick [0, 1, 2] rfl (A0_takeNextOrder_96 x1 x2 σ r h)
    · replace h := ite_f c2 h
      refine AR.aload_n (pc := 75) (j := 0) dX0_takeNextOrder_75 rfl rfl ?_
      refine AR.iload_n (pc := 76) (j := 3) dX0_takeNextOrder_76 rfl rfl ?_
      obtain ⟨r3, h3, h⟩ := bd_some h
      refine AR.callV (pc := 77) (As := [.int x3]) (st := []) (ci := 0) dX0_takeNextOrder_77 ⟨cd_X0_whoAt, im_X0_whoAt, se_X0_whoAt, ini_X0⟩ ml_X0_36 (A0_whoAt 30 grp30 x3 σ _ h3) ⟨rfl, pd_X0_whoAt⟩ ⟨Nat.le_of_ble_eq_true rfl, Nat.le_of_ble_eq_true rfl⟩ ⟨rfl, rfl⟩ rfl rfl rfl (Nat.le_of_ble_eq_true rfl) ?_
      refine AR.aload_n (pc := 80) (j := 0) dX0_takeNextOrder_80 rfl rfl ?_
      refine AR.iload_n (pc := 81) (j := 1) dX0_takeNextOrder_81 rfl rfl ?_
      obtain ⟨r4, h4, h⟩ := bd_some h
      refine AR.callV (pc := 82) (As := [.int x1]) (st := [.int (r3.1)]) (ci := 0) dX0_takeNextOrder_82 ⟨cd_X0_whoAt, im_X0_whoAt, se_X0_whoAt, ini_X0⟩ ml_X0_36 (A0_whoAt 30 grp30 x1 (r3.2) _ h4) ⟨rfl, pd_X0_whoAt⟩ ⟨Nat.le_of_ble_eq_true rfl, Nat.le_of_ble_eq_true rfl⟩ ⟨rfl, rfl⟩ rfl rfl rfl (Nat.le_of_ble_eq_true rfl) ?_
      refine AR.icmp_le (pc := 85) (tgt := 90) dX0_takeNextOrder_85 (by decide) (fun c5 => ?_) (fun c5 => ?_)
      · replace h := ite_t c5 h
        exact AR.pick [0, 1, 2, 3] rfl (A0_takeNextOrder_90 k59 x1 x2 x3 hk59 (r4.2) r h)
      · replace h := ite_f c5 h
        refine AR.iload_n (pc := 88) (j := 3) dX0_takeNextOrder_88 rfl rfl ?_
        refine AR.istore_n (pc := 89) (L2 := [(2, .int x3), (0, .ref 30), (1, .int x1), (3, .int x3)]) dX0_takeNextOrder_89 rfl (by decide) rfl ?_
        exact AR.pick [1, 2, 0, 3] rfl (A0_takeNextOrder_90 k59 x1 x3 x3 hk59 (r4.2) r h)
theorem A0_takeNextOrder_59 {l : Launch} (x1 : Int32) (p : Int32 × Int32 × HS) (r : Int32 × HS) (h : f0_takeNextOrder_59 x1 p = some r) : AR l RX0 cX0_takeNextOrder 5 (some .boolean) (wsU yX0_takeNextOrder cX0_takeNextOrder 5 (some .boolean)) rm0_takeNextOrder SC 59 [(0, .ref 30), (1, .int x1), (2, .int (p.1)), (3, .int (p.2.1))] [] p.2.2 (some (.int r.1), r.2) := by
  unfold f0_takeNextOrder_59 at h
  exact wloop_run (body := fun k59 p => f0_takeNextOrder_59_b k59 x1 p.1 p.2.1 p.2.2) (Q := fun p r => AR l RX0 cX0_takeNextOrder 5 (some .boolean) (wsU yX0_takeNextOrder cX0_takeNextOrder 5 (some .boolean)) rm0_takeNextOrder SC 59 [(0, .ref 30), (1, .int x1), (2, .int (p.1)), (3, .int (p.2.1))] [] p.2.2 (some (.int r.1), r.2)) (fun k59 hk59 p r h => A0_takeNextOrder_59_b k59 x1 p.1 p.2.1 hk59 p.2.2 r h) fuelN p r h
set_option maxHeartbeats 4000000 in
set_option maxRecDepth 100000 in
theorem A0_takeNextOrder_45 {l : Launch} (x1 : Int32) (σ : HS) (r : Int32 × HS) (h : f0_takeNextOrder_45 x1 σ = some r) : AR l RX0 cX0_takeNextOrder 5 (some .boolean) (wsU yX0_takeNextOrder cX0_takeNextOrder 5 (some .boolean)) rm0_takeNextOrder SC 45 [(0, .ref 30), (1, .int x1)] [] σ (some (.int r.1), r.2) := by
  unfold f0_takeNextOrder_45 at h
  refine AR.iload_n (pc := 45) (j := 1) dX0_takeNextOrder_45 rfl rfl ?_
  refine AR.if_ge (pc := 46) (tgt := 51) dX0_takeNextOrder_46 (by decide) (fun c1 => ?_) (fun c1 => ?_)
  · replace h := ite_t c1 h
    refine AR.iload_n (pc := 51) (j := 1) dX0_takeNextOrder_51 rfl rfl ?_
    refine AR.iconst (pc := 52) (v := 1) dX0_takeNextOrder_52 (by decide) ?_
    refine AR.iadd (pc := 53) dX0_takeNextOrder_53 ?_
    refine AR.istore_n (pc := 54) (L2 := [(2, .int (x1 + 1)), (0, .ref 30), (1, .int x1)]) dX0_takeNextOrder_54 rfl (by decide) rfl ?_
    refine AR.iload_n (pc := 55) (j := 2) dX0_takeNextOrder_55 rfl rfl ?_
    refine AR.iconst (pc := 56) (v := 1) dX0_takeNextOrder_56 (by decide) ?_
    refine AR.iadd (pc := 57) dX0_takeNextOrder_57 ?_
    refine AR.istore_n (pc := 58) (L2 := [(3, .int (x1 + 1)), (2, .int (x1 + 1)), (0, .ref 30), (1, .int x1)]) dX0_takeNextOrder_58 rfl (by decide) rfl ?_
    exact AR.pick [2, 3, 1, 0] rfl (A0_takeNextOrder_59 x1 ((x1 + 1), (x1 + 1), σ) r h)
  · replace h := ite_f c1 h
    refine AR.iconst (pc := 49) (v := 0) dX0_takeNextOrder_49 (by decide) ?_
    exact AR.zret (pc := 50) rfl (Or.inl rfl) dX0_takeNextOrder_50 (hrI (Option.some.inj h))
set_option maxHeartbeats 4000000 in
set_option maxRecDepth 100000 in
theorem A0_takeNextOrder_39 {l : Launch} (k4 : Int32 × Int32 × HS → Option (Int32 × HS)) (x1 : Int32) (x2 : Int32) (hk4 : ∀ (p : Int32 × Int32 × HS) (r : Int32 × HS), k4 p = some r → AR l RX0 cX0_takeNextOrder 5 (some .boolean) (wsU yX0_takeNextOrder cX0_takeNextOrder 5 (some .boolean)) rm0_takeNextOrder SC 4 [(0, .ref 30), (1, .int (p.1)), (2, .int (p.2.1))] [] p.2.2 (some (.int r.1), r.2)) (σ : HS) (r : Int32 × HS) (h : f0_takeNextOrder_39 k4 x1 x2 σ = some r) : AR l RX0 cX0_takeNextOrder 5 (some .boolean) (wsU yX0_takeNextOrder cX0_takeNextOrder 5 (some .boolean)) rm0_takeNextOrder SC 39 [(0, .ref 30), (1, .int x1), (2, .int x2)] [] σ (some (.int r.1), r.2) := by
  unfold f0_takeNextOrder_39 at h
  refine AR.iinc (pc := 39) (j := 2) (v := (x2 + 1)) (L2 := [(2, .int (x2 + 1)), (0, .ref 30), (1, .int x1)]) dX0_takeNextOrder_39 rfl rfl (by decide) rfl ?_
  refine AR.goto (pc := 42) (tgt := 4) dX0_takeNextOrder_42 (by decide) ?_
  exact AR.pick [1, 2, 0] rfl (hk4 (x1, (x2 + 1), σ) r h)
set_option maxHeartbeats 4000000 in
set_option maxRecDepth 100000 in
theorem A0_takeNextOrder_4_b {l : Launch} (k4 : Int32 × Int32 × HS → Option (Int32 × HS)) (x1 : Int32) (x2 : Int32) (hk4 : ∀ (p : Int32 × Int32 × HS) (r : Int32 × HS), k4 p = some r → AR l RX0 cX0_takeNextOrder 5 (some .boolean) (wsU yX0_takeNextOrder cX0_takeNextOrder 5 (some .boolean)) rm0_takeNextOrder SC 4 [(0, .ref 30), (1, .int (p.1)), (2, .int (p.2.1))] [] p.2.2 (some (.int r.1), r.2)) (σ : HS) (r : Int32 × HS) (h : f0_takeNextOrder_4_b k4 x1 x2 σ = some r) : AR l RX0 cX0_takeNextOrder 5 (some .boolean) (wsU yX0_takeNextOrder cX0_takeNextOrder 5 (some .boolean)) rm0_takeNextOrder SC 4 [(0, .ref 30), (1, .int x1), (2, .int x2)] [] σ (some (.int r.1), r.2) := by
  unfold f0_takeNextOrder_4_b at h
  refine AR.iload_n (pc := 4) (j := 2) dX0_takeNextOrder_4 rfl rfl ?_
  refine AR.iconst (pc := 5) (v := 1) dX0_takeNextOrder_5 (by decide) ?_
  refine AR.iadd (pc := 6) dX0_takeNextOrder_6 ?_
  refine AR.aload_n (pc := 7) (j := 0) dX0_takeNextOrder_7 rfl rfl ?_
  refine AR.getf (pc := 8) (ci := 0) (j := 0) (d := 5 + 2) (v := .ref 5) (T := TX0) dX0_takeNextOrder_8 rfl rfl rfl (by decide) (fun w hw => wsU_in (uw_X0 w hw)) (wsU_in fl_X0_22) rfl ?_
  refine AR.getfN (pc := 11) (ci := 4) (j := 0) (d := 0) (v := .int (σ.1 5 0)) (T := TX4) dX0_takeNextOrder_11 rfl rfl rfl (by decide) (fun w hw => wsU_in (uw_X4 w hw)) fn_X0_40 rfl ?_
  refine AR.icmp_ge (pc := 14) (tgt := 45) dX0_takeNextOrder_14 (by decide) (fun c1 => ?_) (fun c1 => ?_)
  · replace h := ite_t c1 h
    exact AR.pick [0, 1] rfl (A0_takeNextOrder_45 x1 σ r h)
  · replace h := ite_f c1 h
    refine AR.iload_n (pc := 17) (j := 2) dX0_takeNextOrder_17 rfl rfl ?_
    refine AR.iconst (pc := 18) (v := 5) dX0_takeNextOrder_18 (by decide) ?_
    refine AR.icmp_ge (pc := 19) (tgt := 45) dX0_takeNextOrder_19 (by decide) (fun c2 => ?_) (fun c2 => ?_)
    · replace h := ite_t c2 h
      exact AR.pick [0, 1] rfl (A0_takeNextOrder_45 x1 σ r h)
    · replace h := ite_f c2 h
      refine AR.aload_n (pc := 22) (j := 0) dX0_takeNextOrder_22 rfl rfl ?_
      refine AR.iload_n (pc := 23) (j := 2) dX0_takeNextOrder_23 rfl rfl ?_
      obtain ⟨r3, h3, h⟩ := bd_some h
      refine AR.callV (pc := 24) (As := [.int x2]) (st := []) (ci := 0) dX0_takeNextOrder_24 ⟨cd_X0_whoAt, im_X0_whoAt, se_X0_whoAt, ini_X0⟩ ml_X0_36 (A0_whoAt 30 grp30 x2 σ _ h3) ⟨rfl, pd_X0_whoAt⟩ ⟨Nat.le_of_ble_eq_true rfl, Nat.le_of_ble_eq_true rfl⟩ ⟨rfl, rfl⟩ rfl rfl rfl (Nat.le_of_ble_eq_true rfl) ?_
      refine AR.aload_n (pc := 27) (j := 0) dX0_takeNextOrder_27 rfl rfl ?_
      refine AR.iload_n (pc := 28) (j := 2) dX0_takeNextOrder_28 rfl rfl ?_
      refine AR.iconst (pc := 29) (v := 1) dX0_takeNextOrder_29 (by decide) ?_
      refine AR.iadd (pc := 30) dX0_takeNextOrder_30 ?_
      obtain ⟨r4, h4, h⟩ := bd_some h
      refine AR.callV (pc := 31) (As := [.int (x2 + 1)]) (st := [.int (r3.1)]) (ci := 0) dX0_takeNextOrder_31 ⟨cd_X0_whoAt, im_X0_whoAt, se_X0_whoAt, ini_X0⟩ ml_X0_36 (A0_whoAt 30 grp30 (x2 + 1) (r3.2) _ h4) ⟨rfl, pd_X0_whoAt⟩ ⟨Nat.le_of_ble_eq_true rfl, Nat.le_of_ble_eq_true rfl⟩ ⟨rfl, rfl⟩ rfl rfl rfl (Nat.le_of_ble_eq_true rfl) ?_
      refine AR.icmp_ge (pc := 34) (tgt := 39) dX0_takeNextOrder_34 (by decide) (fun c5 => ?_) (fun c5 => ?_)
      · replace h := ite_t c5 h
        exact AR.pick [0, 1, 2] rfl (A0_takeNextOrder_39 k4 x1 x2 hk4 (r4.2) r h)
      · replace h := ite_f c5 h
        refine AR.iload_n (pc := 37) (j := 2) dX0_takeNextOrder_37 rfl rfl ?_
        refine AR.istore_n (pc := 38) (L2 := [(1, .int x2), (0, .ref 30), (2, .int x2)]) dX0_takeNextOrder_38 rfl (by decide) rfl ?_
        exact AR.pick [1, 0, 2] rfl (A0_takeNextOrder_39 k4 x2 x2 hk4 (r4.2) r h)
theorem A0_takeNextOrder_4 {l : Launch} (p : Int32 × Int32 × HS) (r : Int32 × HS) (h : f0_takeNextOrder_4 p = some r) : AR l RX0 cX0_takeNextOrder 5 (some .boolean) (wsU yX0_takeNextOrder cX0_takeNextOrder 5 (some .boolean)) rm0_takeNextOrder SC 4 [(0, .ref 30), (1, .int (p.1)), (2, .int (p.2.1))] [] p.2.2 (some (.int r.1), r.2) := by
  unfold f0_takeNextOrder_4 at h
  exact wloop_run (body := fun k4 p => f0_takeNextOrder_4_b k4 p.1 p.2.1 p.2.2) (Q := fun p r => AR l RX0 cX0_takeNextOrder 5 (some .boolean) (wsU yX0_takeNextOrder cX0_takeNextOrder 5 (some .boolean)) rm0_takeNextOrder SC 4 [(0, .ref 30), (1, .int (p.1)), (2, .int (p.2.1))] [] p.2.2 (some (.int r.1), r.2)) (fun k4 hk4 p r h => A0_takeNextOrder_4_b k4 p.1 p.2.1 hk4 p.2.2 r h) fuelN p r h
set_option maxHeartbeats 4000000 in
set_option maxRecDepth 100000 in
theorem A0_takeNextOrder {l : Launch} (σ : HS) (r : Int32 × HS) (h : f0_takeNextOrder σ = some r) : MA l yX0_takeNextOrder (wsU yX0_takeNextOrder cX0_takeNextOrder 5 (some .boolean)) rm0_takeNextOrder SC [.ref 30] σ (some (.int r.1), r.2) := by
  refine MA.of (L := [(0, .ref 30)]) pn_X0_takeNextOrder rfl (fun _ => Nat.le_of_ble_eq_true rfl) (fun _ => rfl) ?_
  unfold f0_takeNextOrder at h
  refine AR.iconst (pc := 0) (v := (-1)) dX0_takeNextOrder_0 (by decide) ?_
  refine AR.istore_n (pc := 1) (L2 := [(1, .int (-1)), (0, .ref 30)]) dX0_takeNextOrder_1 rfl (by decide) rfl ?_
  refine AR.iconst (pc := 2) (v := 0) dX0_takeNextOrder_2 (by decide) ?_
  refine AR.istore_n (pc := 3) (L2 := [(2, .int 0), (1, .int (-1)), (0, .ref 30)]) dX0_takeNextOrder_3 rfl (by decide) rfl ?_
  exact AR.pick [2, 1, 0] rfl (A0_takeNextOrder_4 ((-1), 0, σ) r h)
set_option maxHeartbeats 4000000 in
set_option maxRecDepth 100000 in
theorem A0_changesFrom_36 {l : Launch} (k4 : Int32 × Int32 × HS → Option (Int32 × HS)) (x2 : Int32) (x3 : Int32) (hk4 : ∀ (p : Int32 × Int32 × HS) (r : Int32 × HS), k4 p = some r → AR l RX0 cX0_changesFrom 4 (some .int) (wsU yX0_changesFrom cX0_changesFrom 4 (some .int)) rm0_changesFrom SC 4 [(0, .ref 30), (1, .ref 20), (2, .int (p.1)), (3, .int (p.2.1))] [] p.2.2 (some (.int r.1), r.2)) (σ : HS) (r : Int32 × HS) (h : f0_changesFrom_36 k4 x2 x3 σ = some r) : AR l RX0 cX0_changesFrom 4 (some .int) (wsU yX0_changesFrom cX0_changesFrom 4 (some .int)) rm0_changesFrom SC 36 [(0, .ref 30), (1, .ref 20), (2, .int x2), (3, .int x3)] [] σ (some (.int r.1), r.2) := by
  unfold f0_changesFrom_36 at h
  refine AR.iinc (pc := 36) (j := 3) (v := (x3 + 1)) (L2 := [(3, .int (x3 + 1)), (0, .ref 30), (1, .ref 20), (2, .int x2)]) dX0_changesFrom_36 rfl rfl (by decide) rfl ?_
  refine AR.goto (pc := 39) (tgt := 4) dX0_changesFrom_39 (by decide) ?_
  exact AR.pick [1, 2, 3, 0] rfl (hk4 (x2, (x3 + 1), σ) r h)
set_option maxHeartbeats 4000000 in
set_option maxRecDepth 100000 in
theorem A0_changesFrom_4_b {l : Launch} (k4 : Int32 × Int32 × HS → Option (Int32 × HS)) (x2 : Int32) (x3 : Int32) (hk4 : ∀ (p : Int32 × Int32 × HS) (r : Int32 × HS), k4 p = some r → AR l RX0 cX0_changesFrom 4 (some .int) (wsU yX0_changesFrom cX0_changesFrom 4 (some .int)) rm0_changesFrom SC 4 [(0, .ref 30), (1, .ref 20), (2, .int (p.1)), (3, .int (p.2.1))] [] p.2.2 (some (.int r.1), r.2)) (σ : HS) (r : Int32 × HS) (h : f0_changesFrom_4_b k4 x2 x3 σ = some r) : AR l RX0 cX0_changesFrom 4 (some .int) (wsU yX0_changesFrom cX0_changesFrom 4 (some .int)) rm0_changesFrom SC 4 [(0, .ref 30), (1, .ref 20), (2, .int x2), (3, .int x3)] [] σ (some (.int r.1), r.2) := by
  unfold f0_changesFrom_4_b at h
  refine AR.iload_n (pc := 4) (j := 3) dX0_changesFrom_4 rfl rfl ?_
  refine AR.aload_n (pc := 5) (j := 0) dX0_changesFrom_5 rfl rfl ?_
  refine AR.getf (pc := 6) (ci := 0) (j := 0) (d := 5 + 2) (v := .ref 5) (T := TX0) dX0_changesFrom_6 rfl rfl rfl (by decide) (fun w hw => wsU_in (uw_X0 w hw)) (wsU_in fl_X0_22) rfl ?_
  refine AR.getfN (pc := 9) (ci := 4) (j := 0) (d := 0) (v := .int (σ.1 5 0)) (T := TX4) dX0_changesFrom_9 rfl rfl rfl (by decide) (fun w hw => wsU_in (uw_X4 w hw)) fn_X0_40 rfl ?_
  refine AR.icmp_ge (pc := 12) (tgt := 42) dX0_changesFrom_12 (by decide) (fun c1 => ?_) (fun c1 => ?_)
  · replace h := ite_t c1 h
    refine AR.iload_n (pc := 42) (j := 2) dX0_changesFrom_42 rfl rfl ?_
    exact AR.iret (pc := 43) rfl dX0_changesFrom_43 (hrI (Option.some.inj h))
  · replace h := ite_f c1 h
    refine AR.iload_n (pc := 15) (j := 3) dX0_changesFrom_15 rfl rfl ?_
    refine AR.iconst (pc := 16) (v := 5) dX0_changesFrom_16 (by decide) ?_
    refine AR.icmp_ge (pc := 17) (tgt := 42) dX0_changesFrom_17 (by decide) (fun c2 => ?_) (fun c2 => ?_)
    · replace h := ite_t c2 h
      refine AR.iload_n (pc := 42) (j := 2) dX0_changesFrom_42 rfl rfl ?_
      exact AR.iret (pc := 43) rfl dX0_changesFrom_43 (hrI (Option.some.inj h))
    · replace h := ite_f c2 h
      refine AR.aload_n (pc := 20) (j := 0) dX0_changesFrom_20 rfl rfl ?_
      refine AR.iload_n (pc := 21) (j := 3) dX0_changesFrom_21 rfl rfl ?_
      obtain ⟨r3, h3, h⟩ := bd_some h
      refine AR.callV (pc := 22) (As := [.int x3]) (st := []) (ci := 0) dX0_changesFrom_22 ⟨cd_X0_whoAt, im_X0_whoAt, se_X0_whoAt, ini_X0⟩ ml_X0_36 (A0_whoAt 30 grp30 x3 σ _ h3) ⟨rfl, pd_X0_whoAt⟩ ⟨Nat.le_of_ble_eq_true rfl, Nat.le_of_ble_eq_true rfl⟩ ⟨rfl, rfl⟩ rfl rfl rfl (Nat.le_of_ble_eq_true rfl) ?_
      refine AR.aload_n (pc := 25) (j := 1) dX0_changesFrom_25 rfl rfl ?_
      refine AR.iload_n (pc := 26) (j := 3) dX0_changesFrom_26 rfl rfl ?_
      obtain ⟨r4, h4, h⟩ := bd_some h
      refine AR.callV (pc := 27) (As := [.int x3]) (st := [.int (r3.1)]) (ci := 0) dX0_changesFrom_27 ⟨cd_X0_whoAt, im_X0_whoAt, se_X0_whoAt, ini_X0⟩ ml_X0_36 (A0_whoAt 20 grp20 x3 (r3.2) _ h4) ⟨rfl, pd_X0_whoAt⟩ ⟨Nat.le_of_ble_eq_true rfl, Nat.le_of_ble_eq_true rfl⟩ ⟨rfl, rfl⟩ rfl rfl rfl (Nat.le_of_ble_eq_true rfl) ?_
      refine AR.icmp_eq (pc := 30) (tgt := 36) dX0_changesFrom_30 (by decide) (fun c5 => ?_) (fun c5 => ?_)
      · replace h := ite_t c5 h
        exact AR.pick [0, 1, 2, 3] rfl (A0_changesFrom_36 k4 x2 x3 hk4 (r4.2) r h)
      · replace h := ite_f c5 h
        refine AR.iinc (pc := 33) (j := 2) (v := (x2 + 1)) (L2 := [(2, .int (x2 + 1)), (0, .ref 30), (1, .ref 20), (3, .int x3)]) dX0_changesFrom_33 rfl rfl (by decide) rfl ?_
        exact AR.pick [1, 2, 0, 3] rfl (A0_changesFrom_36 k4 (x2 + 1) x3 hk4 (r4.2) r h)
theorem A0_changesFrom_4 {l : Launch} (p : Int32 × Int32 × HS) (r : Int32 × HS) (h : f0_changesFrom_4 p = some r) : AR l RX0 cX0_changesFrom 4 (some .int) (wsU yX0_changesFrom cX0_changesFrom 4 (some .int)) rm0_changesFrom SC 4 [(0, .ref 30), (1, .ref 20), (2, .int (p.1)), (3, .int (p.2.1))] [] p.2.2 (some (.int r.1), r.2) := by
  unfold f0_changesFrom_4 at h
  exact wloop_run (body := fun k4 p => f0_changesFrom_4_b k4 p.1 p.2.1 p.2.2) (Q := fun p r => AR l RX0 cX0_changesFrom 4 (some .int) (wsU yX0_changesFrom cX0_changesFrom 4 (some .int)) rm0_changesFrom SC 4 [(0, .ref 30), (1, .ref 20), (2, .int (p.1)), (3, .int (p.2.1))] [] p.2.2 (some (.int r.1), r.2)) (fun k4 hk4 p r h => A0_changesFrom_4_b k4 p.1 p.2.1 hk4 p.2.2 r h) fuelN p r h
set_option maxHeartbeats 4000000 in
set_option maxRecDepth 100000 in
theorem A0_changesFrom {l : Launch} (σ : HS) (r : Int32 × HS) (h : f0_changesFrom σ = some r) : MA l yX0_changesFrom (wsU yX0_changesFrom cX0_changesFrom 4 (some .int)) rm0_changesFrom SC [.ref 30, .ref 20] σ (some (.int r.1), r.2) := by
  refine MA.of (L := [(0, .ref 30), (1, .ref 20)]) pn_X0_changesFrom rfl (fun _ => Nat.le_of_ble_eq_true rfl) (fun _ => rfl) ?_
  unfold f0_changesFrom at h
  refine AR.iconst (pc := 0) (v := 0) dX0_changesFrom_0 (by decide) ?_
  refine AR.istore_n (pc := 1) (L2 := [(2, .int 0), (0, .ref 30), (1, .ref 20)]) dX0_changesFrom_1 rfl (by decide) rfl ?_
  refine AR.iconst (pc := 2) (v := 0) dX0_changesFrom_2 (by decide) ?_
  refine AR.istore_n (pc := 3) (L2 := [(3, .int 0), (2, .int 0), (0, .ref 30), (1, .ref 20)]) dX0_changesFrom_3 rfl (by decide) rfl ?_
  exact AR.pick [2, 3, 1, 0] rfl (A0_changesFrom_4 (0, 0, σ) r h)
set_option maxHeartbeats 4000000 in
set_option maxRecDepth 100000 in
theorem A1_begin {l : Launch} (g : Nat) (hg : Grp g) (σ : HS) (r : HS) (h : f1_begin g σ = some r) : MA l yX1_begin (wsU yX1_begin cX1_begin 1 none) rm1_begin SC [.ref (g + 7)] σ (none, r) := by
  refine MA.of (L := [(0, .ref (g + 7))]) pn_X1_begin rfl (fun _ => Nat.le_of_ble_eq_true rfl) (fun _ => rfl) ?_
  unfold f1_begin at h
  refine AR.aload_n (pc := 0) (j := 0) dX1_begin_0 rfl rfl ?_
  refine AR.iconst (pc := 1) (v := 0) dX1_begin_1 (by decide) ?_
  refine AR.putI (pc := 2) (ci := 1) (j := 5) (T := TX1) (ty0 := tyX1) (ty := .int) dX1_begin_2 (gr7 hg) rfl rfl (by decide) (fun w hw => wsU_in (uw_X1 w hw)) tyX1_ok nmX1 (wsU_in fl_X1_18) rfl (by decide +kernel) rfl rfl ?_
  refine AR.aload_n (pc := 5) (j := 0) dX1_begin_5 rfl rfl ?_
  refine AR.aload_n (pc := 6) (j := 0) dX1_begin_6 rfl rfl ?_
  refine AR.getf (pc := 7) (ci := 1) (j := 1) (d := g + 2) (v := .ref g) (T := TX1) dX1_begin_7 (gr7 hg) rfl rfl (by decide) (fun w hw => wsU_in (uw_X1 w hw)) (wsU_in fl_X1_45) rfl ?_
  obtain ⟨r1, h1, h⟩ := bd_some h
  refine AR.callVN (pc := 10) (As := []) (st := [.ref (g + 7)]) (ci := 0) dX1_begin_10 ⟨cd_X0_firstWater, im_X0_firstWater, se_X0_firstWater, ini_X0⟩ mn_X1_53 (A0_firstWater g hg (uI σ (g + 7) 5 0) _ h1) ⟨rfl, pd_X0_firstWater⟩ ⟨Nat.le_of_ble_eq_true rfl, Nat.le_of_ble_eq_true rfl⟩ ⟨rfl, rfl⟩ (gr0 hg) rfl rfl (Nat.le_of_ble_eq_true rfl) ?_
  refine AR.putI (pc := 13) (ci := 1) (j := 6) (T := TX1) (ty0 := tyX1) (ty := .int) dX1_begin_13 (gr7 hg) rfl rfl (by decide) (fun w hw => wsU_in (uw_X1 w hw)) tyX1_ok nmX1 (wsU_in fl_X1_22) rfl (by decide +kernel) rfl rfl ?_
  refine AR.aload_n (pc := 16) (j := 0) dX1_begin_16 rfl rfl ?_
  refine AR.iconst (pc := 17) (v := 0) dX1_begin_17 (by decide) ?_
  refine AR.putI (pc := 18) (ci := 1) (j := 7) (T := TX1) (ty0 := tyX1) (ty := .int) dX1_begin_18 (gr7 hg) rfl rfl (by decide) (fun w hw => wsU_in (uw_X1 w hw)) tyX1_ok nmX1 (wsU_in fl_X1_25) rfl (by decide +kernel) rfl rfl ?_
  refine AR.aload_n (pc := 21) (j := 0) dX1_begin_21 rfl rfl ?_
  refine AR.bipush (pc := 22) (v := (-9)) dX1_begin_22 (by decide) ?_
  refine AR.putI (pc := 24) (ci := 1) (j := 8) (T := TX1) (ty0 := tyX1) (ty := .int) dX1_begin_24 (gr7 hg) rfl rfl (by decide) (fun w hw => wsU_in (uw_X1 w hw)) tyX1_ok nmX1 (wsU_in fl_X1_28) rfl (by decide +kernel) rfl rfl ?_
  refine AR.aload_n (pc := 27) (j := 0) dX1_begin_27 rfl rfl ?_
  refine AR.lconst (pc := 28) (v := 0) dX1_begin_28 (by decide) ?_
  refine AR.putL (pc := 29) (ci := 1) (j := 9) (T := TX1) (ty0 := tyX1) (ty := .long) dX1_begin_29 (gr7 hg) rfl rfl (by decide) (fun w hw => wsU_in (uw_X1 w hw)) tyX1_ok nmX1 (wsU_in fl_X1_31) rfl (by decide +kernel) rfl rfl ?_
  exact AR.vret (pc := 32) rfl dX1_begin_32 (hrV (Option.some.inj h))
set_option maxHeartbeats 4000000 in
set_option maxRecDepth 100000 in
theorem A4_placeOfWord {l : Launch} (x0 : Int32) (x1 : Int32) (σ : HS) (r : Int32 × HS) (h : f4_placeOfWord x0 x1 σ = some r) : MA l yX4_placeOfWord (wsU yX4_placeOfWord cX4_placeOfWord 2 (some .int)) rm4_placeOfWord SC [.int x0, .int x1] σ (some (.int r.1), r.2) := by
  refine MA.of (L := [(0, .int x0), (1, .int x1)]) pn_X4_placeOfWord rfl (fun _ => Nat.le_of_ble_eq_true rfl) (fun _ => rfl) ?_
  unfold f4_placeOfWord at h
  refine AR.iload_n (pc := 0) (j := 0) dX4_placeOfWord_0 rfl rfl ?_
  refine AR.iconst (pc := 1) (v := 3) dX4_placeOfWord_1 (by decide) ?_
  refine AR.imul (pc := 2) dX4_placeOfWord_2 ?_
  refine AR.iload_n (pc := 3) (j := 1) dX4_placeOfWord_3 rfl rfl ?_
  refine AR.iadd (pc := 4) dX4_placeOfWord_4 ?_
  exact AR.iret (pc := 5) rfl dX4_placeOfWord_5 (hrI (Option.some.inj h))
set_option maxHeartbeats 4000000 in
set_option maxRecDepth 100000 in
theorem A4_lengthOf {l : Launch} (b : Nat) (hb : Ppl b) (x1 : Int32) (x2 : Int32) (σ : HS) (r : Int32 × HS) (h : f4_lengthOf b x1 x2 σ = some r) : MA l yX4_lengthOf (wsU yX4_lengthOf cX4_lengthOf 3 (some .int)) rm4_lengthOf SC [.ref b, .int x1, .int x2] σ (some (.int r.1), r.2) := by
  refine MA.of (L := [(0, .ref b), (1, .int x1), (2, .int x2)]) pn_X4_lengthOf rfl (fun _ => Nat.le_of_ble_eq_true rfl) (fun _ => rfl) ?_
  unfold f4_lengthOf at h
  refine AR.aload_n (pc := 0) (j := 0) dX4_lengthOf_0 rfl rfl ?_
  refine AR.getf (pc := 1) (ci := 4) (j := 5) (d := (b + 3) + 2) (v := .ref (b + 3)) (T := TX4) dX4_lengthOf_1 (pp0 hb) rfl rfl (by decide) (fun w hw => wsU_in (uw_X4 w hw)) (wsU_in fl_X4_28) rfl ?_
  refine AR.iload_n (pc := 4) (j := 1) dX4_lengthOf_4 rfl rfl ?_
  refine AR.iload_n (pc := 5) (j := 2) dX4_lengthOf_5 rfl rfl ?_
  obtain ⟨r1, h1, h⟩ := bd_some h
  refine AR.callS (pc := 6) (As := [.int x1, .int x2]) (st := [.ref (b + 3)]) dX4_lengthOf_6 ⟨cd_X4_placeOfWord, sm_X4_placeOfWord, ini_X4⟩ ml_X4_49 (A4_placeOfWord x1 x2 σ _ h1) ⟨rfl, pd_X4_placeOfWord⟩ ⟨Nat.le_of_ble_eq_true rfl, Nat.le_of_ble_eq_true rfl⟩ ⟨rfl, rfl⟩ rfl (Nat.le_of_ble_eq_true rfl) ?_
  obtain ⟨r2, h2, h⟩ := bd_some h
  refine AR.callSN (pc := 9) (As := [.ref (b + 3), .int (r1.1)]) (st := []) dX4_lengthOf_9 ⟨cd_X8_at, sm_X8_at, ini_X8⟩ mn_X4_85 (A8_at (b + 3) 15 (pp3 hb) (r1.1) (r1.2) _ h2) pd_X8_at ⟨Nat.le_of_ble_eq_true rfl, Nat.le_of_ble_eq_true rfl⟩ ⟨rfl, rfl⟩ rfl (Nat.le_of_ble_eq_true rfl) ?_
  exact AR.iret (pc := 12) rfl dX4_lengthOf_12 (hrI (Option.some.inj h))
set_option maxHeartbeats 4000000 in
set_option maxRecDepth 100000 in
theorem A8_longAt_20 {l : Launch} (k n : Nat) (hk : SC[k]? = some (1, n, [])) (σ : HS) (r : Int64 × HS) (h : f8_longAt_20 k n σ = some r) : AR l RX8 cX8_longAt 2 (some .long) (wsU yX8_longAt cX8_longAt 2 (some .long)) rm8_longAt SC 20 [] [] σ (some (.long r.1), r.2) := by
  unfold f8_longAt_20 at h
  refine AR.lconst (pc := 20) (v := 0) dX8_longAt_20 (by decide) ?_
  exact AR.lret (pc := 21) rfl dX8_longAt_21 (hrL (Option.some.inj h))
set_option maxHeartbeats 4000000 in
set_option maxRecDepth 100000 in
theorem A8_longAt {l : Launch} (k n : Nat) (hk : SC[k]? = some (1, n, [])) (x1 : Int32) (σ : HS) (r : Int64 × HS) (h : f8_longAt k n x1 σ = some r) : MA l yX8_longAt (wsU yX8_longAt cX8_longAt 2 (some .long)) rm8_longAt SC [.ref k, .int x1] σ (some (.long r.1), r.2) := by
  refine MA.of (L := [(0, .ref k), (1, .int x1)]) pn_X8_longAt rfl (fun _ => Nat.le_of_ble_eq_true rfl) (fun _ => rfl) ?_
  unfold f8_longAt at h
  refine AR.aload_n (pc := 0) (j := 0) dX8_longAt_0 rfl rfl ?_
  refine AR.ifnull (pc := 1) dX8_longAt_1 ?_
  refine AR.iload_n (pc := 4) (j := 1) dX8_longAt_4 rfl rfl ?_
  refine AR.if_lt (pc := 5) (tgt := 20) dX8_longAt_5 (by decide) (fun c1 => ?_) (fun c1 => ?_)
  · replace h := ite_t c1 h
    exact AR.pick [] rfl (A8_longAt_20 k n hk σ r h)
  · replace h := ite_f c1 h
    refine AR.iload_n (pc := 8) (j := 1) dX8_longAt_8 rfl rfl ?_
    refine AR.aload_n (pc := 9) (j := 0) dX8_longAt_9 rfl rfl ?_
    refine AR.alenL (pc := 10) dX8_longAt_10 hk ?_
    refine AR.icmp_ge (pc := 11) (tgt := 20) dX8_longAt_11 (by decide) (fun c2 => ?_) (fun c2 => ?_)
    · replace h := ite_t c2 h
      exact AR.pick [] rfl (A8_longAt_20 k n hk σ r h)
    · replace h := ite_f c2 h
      refine AR.aload_n (pc := 14) (j := 0) dX8_longAt_14 rfl rfl ?_
      refine AR.iload_n (pc := 15) (j := 1) dX8_longAt_15 rfl rfl ?_
      obtain ⟨c3, h⟩ := gn_some h
      refine AR.laload (pc := 16) dX8_longAt_16 hk c3 ?_
      refine AR.goto (pc := 17) (tgt := 21) dX8_longAt_17 (by decide) ?_
      exact AR.lret (pc := 21) rfl dX8_longAt_21 (hrL (Option.some.inj h))
set_option maxHeartbeats 4000000 in
set_option maxRecDepth 100000 in
theorem A4_gainBy {l : Launch} (x1 : Int32) (x2 : Int32) (σ : HS) (r : Int64 × HS) (h : f4_gainBy x1 x2 σ = some r) : MA l yX4_gainBy (wsU yX4_gainBy cX4_gainBy 3 (some .long)) rm4_gainBy SC [.ref 5, .int x1, .int x2] σ (some (.long r.1), r.2) := by
  refine MA.of (L := [(0, .ref 5), (1, .int x1), (2, .int x2)]) pn_X4_gainBy rfl (fun _ => Nat.le_of_ble_eq_true rfl) (fun _ => rfl) ?_
  unfold f4_gainBy at h
  refine AR.aload_n (pc := 0) (j := 0) dX4_gainBy_0 rfl rfl ?_
  refine AR.getf (pc := 1) (ci := 4) (j := 8) (d := 11 + 2) (v := .ref 11) (T := TX4) dX4_gainBy_1 rfl rfl rfl (by decide) (fun w hw => wsU_in (uw_X4 w hw)) (wsU_in fl_X4_37) rfl ?_
  refine AR.iload_n (pc := 4) (j := 1) dX4_gainBy_4 rfl rfl ?_
  refine AR.iload_n (pc := 5) (j := 2) dX4_gainBy_5 rfl rfl ?_
  obtain ⟨r1, h1, h⟩ := bd_some h
  refine AR.callS (pc := 6) (As := [.int x1, .int x2]) (st := [.ref 11]) dX4_gainBy_6 ⟨cd_X4_placeOfWord, sm_X4_placeOfWord, ini_X4⟩ ml_X4_49 (A4_placeOfWord x1 x2 σ _ h1) ⟨rfl, pd_X4_placeOfWord⟩ ⟨Nat.le_of_ble_eq_true rfl, Nat.le_of_ble_eq_true rfl⟩ ⟨rfl, rfl⟩ rfl (Nat.le_of_ble_eq_true rfl) ?_
  obtain ⟨r2, h2, h⟩ := bd_some h
  refine AR.callSN (pc := 9) (As := [.ref 11, .int (r1.1)]) (st := []) dX4_gainBy_9 ⟨cd_X8_longAt, sm_X8_longAt, ini_X8⟩ mn_X4_93 (A8_longAt 11 15 rfl (r1.1) (r1.2) _ h2) pd_X8_longAt ⟨Nat.le_of_ble_eq_true rfl, Nat.le_of_ble_eq_true rfl⟩ ⟨rfl, rfl⟩ rfl (Nat.le_of_ble_eq_true rfl) ?_
  exact AR.lret (pc := 12) rfl dX4_gainBy_12 (hrL (Option.some.inj h))
set_option maxHeartbeats 4000000 in
set_option maxRecDepth 100000 in
theorem A1_speak_143 {l : Launch} (g : Nat) (hg : Grp g) (σ : HS) (r : HS) (h : f1_speak_143 g σ = some r) : AR l RX1 cX1_speak 4 none (wsU yX1_speak cX1_speak 4 none) rm1_speak SC 143 [(0, .ref (g + 7))] [] σ (none, r) := by
  unfold f1_speak_143 at h
  refine AR.aload_n (pc := 143) (j := 0) dX1_speak_143 rfl rfl ?_
  refine AR.aload_n (pc := 144) (j := 0) dX1_speak_144 rfl rfl ?_
  refine AR.getf (pc := 145) (ci := 1) (j := 1) (d := g + 2) (v := .ref g) (T := TX1) dX1_speak_145 (gr7 hg) rfl rfl (by decide) (fun w hw => wsU_in (uw_X1 w hw)) (wsU_in fl_X1_45) rfl ?_
  refine AR.aload_n (pc := 148) (j := 0) dX1_speak_148 rfl rfl ?_
  refine AR.getf (pc := 149) (ci := 1) (j := 6) (d := 0) (v := .int (σ.1 (g + 7) 6)) (T := TX1) dX1_speak_149 (gr7 hg) rfl rfl (by decide) (fun w hw => wsU_in (uw_X1 w hw)) (wsU_in fl_X1_22) rfl ?_
  obtain ⟨r1, h1, h⟩ := bd_some h
  refine AR.callVN (pc := 152) (As := [.int (σ.1 (g + 7) 6)]) (st := [.ref (g + 7)]) (ci := 0) dX1_speak_152 ⟨cd_X0_waterBehind, im_X0_waterBehind, se_X0_waterBehind, ini_X0⟩ mn_X1_75 (A0_waterBehind g hg (σ.1 (g + 7) 6) σ _ h1) ⟨rfl, pd_X0_waterBehind⟩ ⟨Nat.le_of_ble_eq_true rfl, Nat.le_of_ble_eq_true rfl⟩ ⟨rfl, rfl⟩ (gr0 hg) rfl rfl (Nat.le_of_ble_eq_true rfl) ?_
  refine AR.putI (pc := 155) (ci := 1) (j := 6) (T := TX1) (ty0 := tyX1) (ty := .int) dX1_speak_155 (gr7 hg) rfl rfl (by decide) (fun w hw => wsU_in (uw_X1 w hw)) tyX1_ok nmX1 (wsU_in fl_X1_22) rfl (by decide +kernel) rfl rfl ?_
  refine AR.aload_n (pc := 158) (j := 0) dX1_speak_158 rfl rfl ?_
  refine AR.dup (pc := 159) dX1_speak_159 rfl ?_
  refine AR.getf (pc := 160) (ci := 1) (j := 5) (d := 0) (v := .int ((uI (r1.2) (g + 7) 6 (r1.1)).1 (g + 7) 5)) (T := TX1) dX1_speak_160 (gr7 hg) rfl rfl (by decide) (fun w hw => wsU_in (uw_X1 w hw)) (wsU_in fl_X1_18) rfl ?_
  refine AR.iconst (pc := 163) (v := 1) dX1_speak_163 (by decide) ?_
  refine AR.iadd (pc := 164) dX1_speak_164 ?_
  refine AR.putI (pc := 165) (ci := 1) (j := 5) (T := TX1) (ty0 := tyX1) (ty := .int) dX1_speak_165 (gr7 hg) rfl rfl (by decide) (fun w hw => wsU_in (uw_X1 w hw)) tyX1_ok nmX1 (wsU_in fl_X1_18) rfl (by decide +kernel) rfl rfl ?_
  exact AR.vret (pc := 168) rfl dX1_speak_168 (hrV (Option.some.inj h))
set_option maxHeartbeats 4000000 in
set_option maxRecDepth 100000 in
theorem A1_speak_88 {l : Launch} (g : Nat) (hg : Grp g) (z0 : Int32) (σ : HS) (r : HS) (h : f1_speak_88 g z0 σ = some r) : AR l RX1 cX1_speak 4 none (wsU yX1_speak cX1_speak 4 none) rm1_speak SC 88 [(0, .ref (g + 7))] [.int z0, .ref (g + 7)] σ (none, r) := by
  unfold f1_speak_88 at h
  refine AR.putI (pc := 88) (ci := 1) (j := 8) (T := TX1) (ty0 := tyX1) (ty := .int) dX1_speak_88 (gr7 hg) rfl rfl (by decide) (fun w hw => wsU_in (uw_X1 w hw)) tyX1_ok nmX1 (wsU_in fl_X1_28) rfl (by decide +kernel) rfl rfl ?_
  refine AR.aload_n (pc := 91) (j := 0) dX1_speak_91 rfl rfl ?_
  refine AR.iconst (pc := 92) (v := 0) dX1_speak_92 (by decide) ?_
  refine AR.putI (pc := 93) (ci := 1) (j := 6) (T := TX1) (ty0 := tyX1) (ty := .int) dX1_speak_93 (gr7 hg) rfl rfl (by decide) (fun w hw => wsU_in (uw_X1 w hw)) tyX1_ok nmX1 (wsU_in fl_X1_22) rfl (by decide +kernel) rfl rfl ?_
  refine AR.goto (pc := 96) (tgt := 143) dX1_speak_96 (by decide) ?_
  exact AR.pick [0] rfl (A1_speak_143 g hg (uI (uI σ (g + 7) 8 z0) (g + 7) 6 0) r h)
set_option maxHeartbeats 4000000 in
set_option maxRecDepth 100000 in
theorem A1_speak_58 {l : Launch} (g : Nat) (hg : Grp g) (x1 : Int32) (x2 : Int32) (z0 : Int32) (σ : HS) (r : HS) (h : f1_speak_58 g x1 x2 z0 σ = some r) : AR l RX1 cX1_speak 4 none (wsU yX1_speak cX1_speak 4 none) rm1_speak SC 58 [(0, .ref (g + 7)), (1, .int x1), (2, .int x2)] [.int z0] σ (none, r) := by
  unfold f1_speak_58 at h
  refine AR.istore_n (pc := 58) (L2 := [(3, .int z0), (0, .ref (g + 7)), (1, .int x1), (2, .int x2)]) dX1_speak_58 rfl (by decide) rfl ?_
  refine AR.iload_n (pc := 59) (j := 0) dX1_speak_59 rfl rfl ?_
  refine AR.aload_n (pc := 60) (j := 1) dX1_speak_60 rfl rfl ?_
  refine AR.getf (pc := 61) (ci := 1) (j := 6) (d := 0) (v := .int (σ.1 (g + 7) 6)) (T := TX1) dX1_speak_61 (gr7 hg) rfl rfl (by decide) (fun w hw => wsU_in (uw_X1 w hw)) (wsU_in fl_X1_22) rfl ?_
  refine AR.icmp_le (pc := 64) (tgt := 99) dX1_speak_64 (by decide) (fun c1 => ?_) (fun c1 => ?_)
  · replace h := ite_t c1 h
    refine AR.iload_n (pc := 99) (j := 2) dX1_speak_99 rfl rfl ?_
    refine AR.bipush (pc := 100) (v := (-9)) dX1_speak_100 (by decide) ?_
    refine AR.icmp_eq (pc := 102) (tgt := 143) dX1_speak_102 (by decide) (fun c2 => ?_) (fun c2 => ?_)
    · replace h := ite_t c2 h
      exact AR.pick [1] rfl (A1_speak_143 g hg σ r h)
    · replace h := ite_f c2 h
      refine AR.aload_n (pc := 105) (j := 1) dX1_speak_105 rfl rfl ?_
      refine AR.dup (pc := 106) dX1_speak_106 rfl ?_
      refine AR.getf (pc := 107) (ci := 1) (j := 7) (d := 0) (v := .int (σ.1 (g + 7) 7)) (T := TX1) dX1_speak_107 (gr7 hg) rfl rfl (by decide) (fun w hw => wsU_in (uw_X1 w hw)) (wsU_in fl_X1_25) rfl ?_
      refine AR.iconst (pc := 110) (v := 1) dX1_speak_110 (by decide) ?_
      refine AR.iadd (pc := 111) dX1_speak_111 ?_
      refine AR.putI (pc := 112) (ci := 1) (j := 7) (T := TX1) (ty0 := tyX1) (ty := .int) dX1_speak_112 (gr7 hg) rfl rfl (by decide) (fun w hw => wsU_in (uw_X1 w hw)) tyX1_ok nmX1 (wsU_in fl_X1_25) rfl (by decide +kernel) rfl rfl ?_
      refine AR.aload_n (pc := 115) (j := 1) dX1_speak_115 rfl rfl ?_
      refine AR.dup (pc := 116) dX1_speak_116 rfl ?_
      refine AR.getf (pc := 117) (ci := 1) (j := 9) (d := 1) (v := .long ((uI σ (g + 7) 7 ((σ.1 (g + 7) 7) + 1)).2 (g + 7) 9)) (T := TX1) dX1_speak_117 (gr7 hg) rfl rfl (by decide) (fun w hw => wsU_in (uw_X1 w hw)) (wsU_in fl_X1_31) rfl ?_
      refine AR.aload_n (pc := 120) (j := 1) dX1_speak_120 rfl rfl ?_
      refine AR.getf (pc := 121) (ci := 1) (j := 2) (d := 5 + 2) (v := .ref 5) (T := TX1) dX1_speak_121 (gr7 hg) rfl rfl (by decide) (fun w hw => wsU_in (uw_X1 w hw)) (wsU_in fl_X1_52) rfl ?_
      refine AR.iload_n (pc := 124) (j := 3) dX1_speak_124 rfl rfl ?_
      refine AR.iload_n (pc := 125) (j := 2) dX1_speak_125 rfl rfl ?_
      obtain ⟨r3, h3, h⟩ := bd_some h
      refine AR.callVN (pc := 126) (As := [.int x2, .int x1]) (st := [.long ((uI σ (g + 7) 7 ((σ.1 (g + 7) 7) + 1)).2 (g + 7) 9), .ref (g + 7)]) (ci := 4) dX1_speak_126 ⟨cd_X4_gainBy, im_X4_gainBy, se_X4_gainBy, ini_X4⟩ mn_X1_71 (A4_gainBy x2 x1 (uI σ (g + 7) 7 ((σ.1 (g + 7) 7) + 1)) _ h3) ⟨rfl, pd_X4_gainBy⟩ ⟨Nat.le_of_ble_eq_true rfl, Nat.le_of_ble_eq_true rfl⟩ ⟨rfl, rfl⟩ rfl rfl rfl (Nat.le_of_ble_eq_true rfl) ?_
      refine AR.ladd (pc := 129) dX1_speak_129 ?_
      refine AR.putL (pc := 130) (ci := 1) (j := 9) (T := TX1) (ty0 := tyX1) (ty := .long) dX1_speak_130 (gr7 hg) rfl rfl (by decide) (fun w hw => wsU_in (uw_X1 w hw)) tyX1_ok nmX1 (wsU_in fl_X1_31) rfl (by decide +kernel) rfl rfl ?_
      refine AR.aload_n (pc := 133) (j := 1) dX1_speak_133 rfl rfl ?_
      refine AR.dup (pc := 134) dX1_speak_134 rfl ?_
      refine AR.getf (pc := 135) (ci := 1) (j := 6) (d := 0) (v := .int ((uL (r3.2) (g + 7) 9 (((uI σ (g + 7) 7 ((σ.1 (g + 7) 7) + 1)).2 (g + 7) 9) + (r3.1))).1 (g + 7) 6)) (T := TX1) dX1_speak_135 (gr7 hg) rfl rfl (by decide) (fun w hw => wsU_in (uw_X1 w hw)) (wsU_in fl_X1_22) rfl ?_
      refine AR.iload_n (pc := 138) (j := 0) dX1_speak_138 rfl rfl ?_
      refine AR.isub (pc := 139) dX1_speak_139 ?_
      refine AR.putI (pc := 140) (ci := 1) (j := 6) (T := TX1) (ty0 := tyX1) (ty := .int) dX1_speak_140 (gr7 hg) rfl rfl (by decide) (fun w hw => wsU_in (uw_X1 w hw)) tyX1_ok nmX1 (wsU_in fl_X1_22) rfl (by decide +kernel) rfl rfl ?_
      exact AR.pick [1] rfl (A1_speak_143 g hg (uI (uL (r3.2) (g + 7) 9 (((uI σ (g + 7) 7 ((σ.1 (g + 7) 7) + 1)).2 (g + 7) 9) + (r3.1))) (g + 7) 6 (((uL (r3.2) (g + 7) 9 (((uI σ (g + 7) 7 ((σ.1 (g + 7) 7) + 1)).2 (g + 7) 9) + (r3.1))).1 (g + 7) 6) - z0)) r h)
  · replace h := ite_f c1 h
    refine AR.aload_n (pc := 67) (j := 1) dX1_speak_67 rfl rfl ?_
    refine AR.aload_n (pc := 68) (j := 1) dX1_speak_68 rfl rfl ?_
    refine AR.getf (pc := 69) (ci := 1) (j := 8) (d := 0) (v := .int (σ.1 (g + 7) 8)) (T := TX1) dX1_speak_69 (gr7 hg) rfl rfl (by decide) (fun w hw => wsU_in (uw_X1 w hw)) (wsU_in fl_X1_28) rfl ?_
    refine AR.bipush (pc := 72) (v := (-9)) dX1_speak_72 (by decide) ?_
    refine AR.icmp_ne (pc := 74) (tgt := 84) dX1_speak_74 (by decide) (fun c4 => ?_) (fun c4 => ?_)
    · replace h := ite_f c4 h
      refine AR.aload_n (pc := 84) (j := 1) dX1_speak_84 rfl rfl ?_
      refine AR.getf (pc := 85) (ci := 1) (j := 8) (d := 0) (v := .int (σ.1 (g + 7) 8)) (T := TX1) dX1_speak_85 (gr7 hg) rfl rfl (by decide) (fun w hw => wsU_in (uw_X1 w hw)) (wsU_in fl_X1_28) rfl ?_
      exact AR.pick [1] rfl (A1_speak_88 g hg (σ.1 (g + 7) 8) σ r h)
    · replace h := ite_t c4 h
      refine AR.aload_n (pc := 77) (j := 1) dX1_speak_77 rfl rfl ?_
      refine AR.getf (pc := 78) (ci := 1) (j := 5) (d := 0) (v := .int (σ.1 (g + 7) 5)) (T := TX1) dX1_speak_78 (gr7 hg) rfl rfl (by decide) (fun w hw => wsU_in (uw_X1 w hw)) (wsU_in fl_X1_18) rfl ?_
      refine AR.goto (pc := 81) (tgt := 88) dX1_speak_81 (by decide) ?_
      exact AR.pick [1] rfl (A1_speak_88 g hg (σ.1 (g + 7) 5) σ r h)
set_option maxHeartbeats 4000000 in
set_option maxRecDepth 100000 in
theorem A1_speak {l : Launch} (g : Nat) (hg : Grp g) (x1 : Int32) (σ : HS) (r : HS) (h : f1_speak g x1 σ = some r) : MA l yX1_speak (wsU yX1_speak cX1_speak 4 none) rm1_speak SC [.ref (g + 7), .int x1] σ (none, r) := by
  refine MA.of (L := [(0, .ref (g + 7)), (1, .int x1)]) pn_X1_speak rfl (fun _ => Nat.le_of_ble_eq_true rfl) (fun _ => rfl) ?_
  unfold f1_speak at h
  refine AR.aload_n (pc := 0) (j := 0) dX1_speak_0 rfl rfl ?_
  refine AR.getf (pc := 1) (ci := 1) (j := 1) (d := g + 2) (v := .ref g) (T := TX1) dX1_speak_1 (gr7 hg) rfl rfl (by decide) (fun w hw => wsU_in (uw_X1 w hw)) (wsU_in fl_X1_45) rfl ?_
  refine AR.aload_n (pc := 4) (j := 0) dX1_speak_4 rfl rfl ?_
  refine AR.getf (pc := 5) (ci := 1) (j := 5) (d := 0) (v := .int (σ.1 (g + 7) 5)) (T := TX1) dX1_speak_5 (gr7 hg) rfl rfl (by decide) (fun w hw => wsU_in (uw_X1 w hw)) (wsU_in fl_X1_18) rfl ?_
  obtain ⟨r1, h1, h⟩ := bd_some h
  refine AR.callVN (pc := 8) (As := [.int (σ.1 (g + 7) 5)]) (st := []) (ci := 0) dX1_speak_8 ⟨cd_X0_whoIn, im_X0_whoIn, se_X0_whoIn, ini_X0⟩ mn_X1_57 (A0_whoIn g hg (σ.1 (g + 7) 5) σ _ h1) ⟨rfl, pd_X0_whoIn⟩ ⟨Nat.le_of_ble_eq_true rfl, Nat.le_of_ble_eq_true rfl⟩ ⟨rfl, rfl⟩ (gr0 hg) rfl rfl (Nat.le_of_ble_eq_true rfl) ?_
  refine AR.istore_n (pc := 11) (L2 := [(2, .int (r1.1)), (0, .ref (g + 7)), (1, .int x1)]) dX1_speak_11 rfl (by decide) rfl ?_
  refine AR.aload_n (pc := 12) (j := 1) dX1_speak_12 rfl rfl ?_
  refine AR.getf (pc := 13) (ci := 1) (j := 3) (d := (g + 8) + 2) (v := .ref (g + 8)) (T := TX1) dX1_speak_13 (gr7 hg) rfl rfl (by decide) (fun w hw => wsU_in (uw_X1 w hw)) (wsU_in fl_X1_9) rfl ?_
  refine AR.aload_n (pc := 16) (j := 1) dX1_speak_16 rfl rfl ?_
  refine AR.getf (pc := 17) (ci := 1) (j := 5) (d := 0) (v := .int ((r1.2).1 (g + 7) 5)) (T := TX1) dX1_speak_17 (gr7 hg) rfl rfl (by decide) (fun w hw => wsU_in (uw_X1 w hw)) (wsU_in fl_X1_18) rfl ?_
  refine AR.iload_n (pc := 20) (j := 2) dX1_speak_20 rfl rfl ?_
  obtain ⟨r2, h2, h⟩ := bd_some h
  refine AR.callSN (pc := 21) (As := [.ref (g + 8), .int ((r1.2).1 (g + 7) 5), .int x1]) (st := []) dX1_speak_21 ⟨cd_X8_set, sm_X8_set, ini_X8⟩ mn_X1_61 (A8_set (g + 8) 6 (gr8 hg) ((r1.2).1 (g + 7) 5) x1 (r1.2) _ h2) pd_X8_set ⟨Nat.le_of_ble_eq_true rfl, Nat.le_of_ble_eq_true rfl⟩ ⟨rfl, rfl⟩ rfl (Nat.le_of_ble_eq_true rfl) ?_
  refine AR.aload_n (pc := 24) (j := 1) dX1_speak_24 rfl rfl ?_
  refine AR.getf (pc := 25) (ci := 1) (j := 4) (d := (g + 9) + 2) (v := .ref (g + 9)) (T := TX1) dX1_speak_25 (gr7 hg) rfl rfl (by decide) (fun w hw => wsU_in (uw_X1 w hw)) (wsU_in fl_X1_15) rfl ?_
  refine AR.aload_n (pc := 28) (j := 1) dX1_speak_28 rfl rfl ?_
  refine AR.getf (pc := 29) (ci := 1) (j := 5) (d := 0) (v := .int (r2.1 (g + 7) 5)) (T := TX1) dX1_speak_29 (gr7 hg) rfl rfl (by decide) (fun w hw => wsU_in (uw_X1 w hw)) (wsU_in fl_X1_18) rfl ?_
  refine AR.aload_n (pc := 32) (j := 1) dX1_speak_32 rfl rfl ?_
  refine AR.getf (pc := 33) (ci := 1) (j := 6) (d := 0) (v := .int (r2.1 (g + 7) 6)) (T := TX1) dX1_speak_33 (gr7 hg) rfl rfl (by decide) (fun w hw => wsU_in (uw_X1 w hw)) (wsU_in fl_X1_22) rfl ?_
  obtain ⟨r3, h3, h⟩ := bd_some h
  refine AR.callSN (pc := 36) (As := [.ref (g + 9), .int (r2.1 (g + 7) 5), .int (r2.1 (g + 7) 6)]) (st := []) dX1_speak_36 ⟨cd_X8_set, sm_X8_set, ini_X8⟩ mn_X1_61 (A8_set (g + 9) 6 (gr9 hg) (r2.1 (g + 7) 5) (r2.1 (g + 7) 6) r2 _ h3) pd_X8_set ⟨Nat.le_of_ble_eq_true rfl, Nat.le_of_ble_eq_true rfl⟩ ⟨rfl, rfl⟩ rfl (Nat.le_of_ble_eq_true rfl) ?_
  refine AR.iload_n (pc := 39) (j := 2) dX1_speak_39 rfl rfl ?_
  refine AR.bipush (pc := 40) (v := (-9)) dX1_speak_40 (by decide) ?_
  refine AR.icmp_ne (pc := 42) (tgt := 49) dX1_speak_42 (by decide) (fun c4 => ?_) (fun c4 => ?_)
  · replace h := ite_f c4 h
    refine AR.aload_n (pc := 49) (j := 1) dX1_speak_49 rfl rfl ?_
    refine AR.getf (pc := 50) (ci := 1) (j := 2) (d := 5 + 2) (v := .ref 5) (T := TX1) dX1_speak_50 (gr7 hg) rfl rfl (by decide) (fun w hw => wsU_in (uw_X1 w hw)) (wsU_in fl_X1_52) rfl ?_
    refine AR.iload_n (pc := 53) (j := 0) dX1_speak_53 rfl rfl ?_
    refine AR.iload_n (pc := 54) (j := 2) dX1_speak_54 rfl rfl ?_
    obtain ⟨r5, h5, h⟩ := bd_some h
    refine AR.callVN (pc := 55) (As := [.int (r1.1), .int x1]) (st := []) (ci := 4) dX1_speak_55 ⟨cd_X4_lengthOf, im_X4_lengthOf, se_X4_lengthOf, ini_X4⟩ mn_X1_65 (A4_lengthOf 5 ppl5 (r1.1) x1 r3 _ h5) ⟨rfl, pd_X4_lengthOf⟩ ⟨Nat.le_of_ble_eq_true rfl, Nat.le_of_ble_eq_true rfl⟩ ⟨rfl, rfl⟩ rfl rfl rfl (Nat.le_of_ble_eq_true rfl) ?_
    exact AR.pick [1, 2, 0] rfl (A1_speak_58 g hg x1 (r1.1) (r5.1) (r5.2) r h)
  · replace h := ite_t c4 h
    refine AR.iconst (pc := 45) (v := 0) dX1_speak_45 (by decide) ?_
    refine AR.goto (pc := 46) (tgt := 58) dX1_speak_46 (by decide) ?_
    exact AR.pick [1, 2, 0] rfl (A1_speak_58 g hg x1 (r1.1) 0 r3 r h)
set_option maxHeartbeats 4000000 in
set_option maxRecDepth 100000 in
theorem A5_stateOf {l : Launch} (x0 : Int32) (x1 : Int32) (σ : HS) (r : Int32 × HS) (h : f5_stateOf x0 x1 σ = some r) : MA l yX5_stateOf (wsU yX5_stateOf cX5_stateOf 2 (some .int)) rm5_stateOf SC [.int x0, .int x1] σ (some (.int r.1), r.2) := by
  refine MA.of (L := [(0, .int x0), (1, .int x1)]) pn_X5_stateOf rfl (fun _ => Nat.le_of_ble_eq_true rfl) (fun _ => rfl) ?_
  unfold f5_stateOf at h
  refine AR.iload_n (pc := 0) (j := 0) dX5_stateOf_0 rfl rfl ?_
  refine AR.bipush (pc := 1) (v := 100) dX5_stateOf_1 (by decide) ?_
  refine AR.imul (pc := 3) dX5_stateOf_3 ?_
  refine AR.iload_n (pc := 4) (j := 1) dX5_stateOf_4 rfl rfl ?_
  refine AR.iadd (pc := 5) dX5_stateOf_5 ?_
  exact AR.iret (pc := 6) rfl dX5_stateOf_6 (hrI (Option.some.inj h))
set_option maxHeartbeats 4000000 in
set_option maxRecDepth 100000 in
theorem A5_wordAt {l : Launch} (g : Nat) (hg : Grp g) (x1 : Int32) (x2 : Int32) (σ : HS) (r : Int32 × HS) (h : f5_wordAt g x1 x2 σ = some r) : MA l yX5_wordAt (wsU yX5_wordAt cX5_wordAt 3 (some .int)) rm5_wordAt SC [.ref (g + 2), .int x1, .int x2] σ (some (.int r.1), r.2) := by
  refine MA.of (L := [(0, .ref (g + 2)), (1, .int x1), (2, .int x2)]) pn_X5_wordAt rfl (fun _ => Nat.le_of_ble_eq_true rfl) (fun _ => rfl) ?_
  unfold f5_wordAt at h
  refine AR.aload_n (pc := 0) (j := 0) dX5_wordAt_0 rfl rfl ?_
  refine AR.getf (pc := 1) (ci := 5) (j := 2) (d := (g + 3) + 2) (v := .ref (g + 3)) (T := TX5) dX5_wordAt_1 (gr2 hg) rfl rfl (by decide) (fun w hw => wsU_in (uw_X5 w hw)) (wsU_in fl_X5_11) rfl ?_
  refine AR.iload_n (pc := 4) (j := 1) dX5_wordAt_4 rfl rfl ?_
  refine AR.iload_n (pc := 5) (j := 2) dX5_wordAt_5 rfl rfl ?_
  obtain ⟨r1, h1, h⟩ := bd_some h
  refine AR.callS (pc := 6) (As := [.int x1, .int x2]) (st := [.ref (g + 3)]) dX5_wordAt_6 ⟨cd_X5_stateOf, sm_X5_stateOf, ini_X5⟩ ml_X5_92 (A5_stateOf x1 x2 σ _ h1) ⟨rfl, pd_X5_stateOf⟩ ⟨Nat.le_of_ble_eq_true rfl, Nat.le_of_ble_eq_true rfl⟩ ⟨rfl, rfl⟩ rfl (Nat.le_of_ble_eq_true rfl) ?_
  obtain ⟨r2, h2, h⟩ := bd_some h
  refine AR.callSN (pc := 9) (As := [.ref (g + 3), .int (r1.1)]) (st := []) dX5_wordAt_9 ⟨cd_X8_at, sm_X8_at, ini_X8⟩ mn_X5_71 (A8_at (g + 3) 600 (gr3 hg) (r1.1) (r1.2) _ h2) pd_X8_at ⟨Nat.le_of_ble_eq_true rfl, Nat.le_of_ble_eq_true rfl⟩ ⟨rfl, rfl⟩ rfl (Nat.le_of_ble_eq_true rfl) ?_
  exact AR.iret (pc := 12) rfl dX5_wordAt_12 (hrI (Option.some.inj h))
set_option maxHeartbeats 4000000 in
set_option maxRecDepth 100000 in
theorem A1_goForced_45 {l : Launch} (g : Nat) (hg : Grp g) (k6 : Int32 × HS → Option (HS)) (x1 : Int32) (x2 : Int32) (x3 : Int32) (z0 : Int32) (hk6 : ∀ (p : Int32 × HS) (r : HS), k6 p = some r → AR l RX1 cX1_goForced 4 none (wsU yX1_goForced cX1_goForced 4 none) rm1_goForced SC 6 [(0, .ref (g + 7)), (1, .int x1), (2, .int x2), (3, .int (p.1))] [] p.2 (none, r)) (σ : HS) (r : HS) (h : f1_goForced_45 g k6 x1 x2 x3 z0 σ = some r) : AR l RX1 cX1_goForced 4 none (wsU yX1_goForced cX1_goForced 4 none) rm1_goForced SC 45 [(0, .ref (g + 7)), (1, .int x1), (2, .int x2), (3, .int x3)] [.int z0, .ref (g + 7)] σ (none, r) := by
  unfold f1_goForced_45 at h
  obtain ⟨r1, h1, h⟩ := bd_some h
  refine AR.callV (pc := 45) (As := [.int z0]) (st := []) (ci := 1) dX1_goForced_45 ⟨cd_X1_speak, im_X1_speak, se_X1_speak, ini_X1⟩ ml_X1_91 (A1_speak g hg z0 σ _ h1) ⟨rfl, pd_X1_speak⟩ ⟨Nat.le_of_ble_eq_true rfl, Nat.le_of_ble_eq_true rfl⟩ ⟨rfl, rfl⟩ (gr7 hg) rfl rfl (Nat.le_of_ble_eq_true rfl) ?_
  refine AR.iinc (pc := 48) (j := 3) (v := (x3 + 1)) (L2 := [(3, .int (x3 + 1)), (0, .ref (g + 7)), (1, .int x1), (2, .int x2)]) dX1_goForced_48 rfl rfl (by decide) rfl ?_
  refine AR.goto (pc := 51) (tgt := 6) dX1_goForced_51 (by decide) ?_
  exact AR.pick [1, 2, 3, 0] rfl (hk6 ((x3 + 1), r1) r h)
set_option maxHeartbeats 4000000 in
set_option maxRecDepth 100000 in
theorem A1_goForced_6_b {l : Launch} (g : Nat) (hg : Grp g) (k6 : Int32 × HS → Option (HS)) (x1 : Int32) (x2 : Int32) (x3 : Int32) (hk6 : ∀ (p : Int32 × HS) (r : HS), k6 p = some r → AR l RX1 cX1_goForced 4 none (wsU yX1_goForced cX1_goForced 4 none) rm1_goForced SC 6 [(0, .ref (g + 7)), (1, .int x1), (2, .int x2), (3, .int (p.1))] [] p.2 (none, r)) (σ : HS) (r : HS) (h : f1_goForced_6_b g k6 x1 x2 x3 σ = some r) : AR l RX1 cX1_goForced 4 none (wsU yX1_goForced cX1_goForced 4 none) rm1_goForced SC 6 [(0, .ref (g + 7)), (1, .int x1), (2, .int x2), (3, .int x3)] [] σ (none, r) := by
  unfold f1_goForced_6_b at h
  refine AR.iload_n (pc := 6) (j := 3) dX1_goForced_6 rfl rfl ?_
  refine AR.aload_n (pc := 7) (j := 0) dX1_goForced_7 rfl rfl ?_
  refine AR.getf (pc := 8) (ci := 1) (j := 1) (d := g + 2) (v := .ref g) (T := TX1) dX1_goForced_8 (gr7 hg) rfl rfl (by decide) (fun w hw => wsU_in (uw_X1 w hw)) (wsU_in fl_X1_45) rfl ?_
  obtain ⟨r1, h1, h⟩ := bd_some h
  refine AR.callVN (pc := 11) (As := []) (st := [.int x3]) (ci := 0) dX1_goForced_11 ⟨cd_X0_turns, im_X0_turns, se_X0_turns, ini_X0⟩ mn_X1_85 (A0_turns g hg σ _ h1) ⟨rfl, pd_X0_turns⟩ ⟨Nat.le_of_ble_eq_true rfl, Nat.le_of_ble_eq_true rfl⟩ ⟨rfl, rfl⟩ (gr0 hg) rfl rfl (Nat.le_of_ble_eq_true rfl) ?_
  refine AR.icmp_ge (pc := 14) (tgt := 54) dX1_goForced_14 (by decide) (fun c2 => ?_) (fun c2 => ?_)
  · replace h := ite_t c2 h
    exact AR.vret (pc := 54) rfl dX1_goForced_54 (hrV (Option.some.inj h))
  · replace h := ite_f c2 h
    refine AR.iload_n (pc := 17) (j := 3) dX1_goForced_17 rfl rfl ?_
    refine AR.bipush (pc := 18) (v := 6) dX1_goForced_18 (by decide) ?_
    refine AR.icmp_ge (pc := 20) (tgt := 54) dX1_goForced_20 (by decide) (fun c3 => ?_) (fun c3 => ?_)
    · replace h := ite_t c3 h
      exact AR.vret (pc := 54) rfl dX1_goForced_54 (hrV (Option.some.inj h))
    · replace h := ite_f c3 h
      refine AR.aload_n (pc := 23) (j := 0) dX1_goForced_23 rfl rfl ?_
      refine AR.iload_n (pc := 24) (j := 3) dX1_goForced_24 rfl rfl ?_
      refine AR.iload_n (pc := 25) (j := 1) dX1_goForced_25 rfl rfl ?_
      refine AR.icmp_ne (pc := 26) (tgt := 33) dX1_goForced_26 (by decide) (fun c4 => ?_) (fun c4 => ?_)
      · replace h := ite_f c4 h
        refine AR.aload_n (pc := 33) (j := 0) dX1_goForced_33 rfl rfl ?_
        refine AR.getf (pc := 34) (ci := 1) (j := 0) (d := (g + 2) + 2) (v := .ref (g + 2)) (T := TX1) dX1_goForced_34 (gr7 hg) rfl rfl (by decide) (fun w hw => wsU_in (uw_X1 w hw)) (wsU_in fl_X1_35) rfl ?_
        refine AR.iload_n (pc := 37) (j := 3) dX1_goForced_37 rfl rfl ?_
        refine AR.aload_n (pc := 38) (j := 0) dX1_goForced_38 rfl rfl ?_
        refine AR.getf (pc := 39) (ci := 1) (j := 6) (d := 0) (v := .int ((r1.2).1 (g + 7) 6)) (T := TX1) dX1_goForced_39 (gr7 hg) rfl rfl (by decide) (fun w hw => wsU_in (uw_X1 w hw)) (wsU_in fl_X1_22) rfl ?_
        obtain ⟨r5, h5, h⟩ := bd_some h
        refine AR.callVN (pc := 42) (As := [.int x3, .int ((r1.2).1 (g + 7) 6)]) (st := [.ref (g + 7)]) (ci := 5) dX1_goForced_42 ⟨cd_X5_wordAt, im_X5_wordAt, se_X5_wordAt, ini_X5⟩ mn_X1_88 (A5_wordAt g hg x3 ((r1.2).1 (g + 7) 6) (r1.2) _ h5) ⟨rfl, pd_X5_wordAt⟩ ⟨Nat.le_of_ble_eq_true rfl, Nat.le_of_ble_eq_true rfl⟩ ⟨rfl, rfl⟩ (gr2 hg) rfl rfl (Nat.le_of_ble_eq_true rfl) ?_
        exact AR.pick [0, 1, 2, 3] rfl (A1_goForced_45 g hg k6 x1 x2 x3 (r5.1) hk6 (r5.2) r h)
      · replace h := ite_t c4 h
        refine AR.iload_n (pc := 29) (j := 2) dX1_goForced_29 rfl rfl ?_
        refine AR.goto (pc := 30) (tgt := 45) dX1_goForced_30 (by decide) ?_
        exact AR.pick [0, 1, 2, 3] rfl (A1_goForced_45 g hg k6 x1 x2 x3 x2 hk6 (r1.2) r h)
theorem A1_goForced_6 {l : Launch} (g : Nat) (hg : Grp g) (x1 : Int32) (x2 : Int32) (p : Int32 × HS) (r : HS) (h : f1_goForced_6 g x1 x2 p = some r) : AR l RX1 cX1_goForced 4 none (wsU yX1_goForced cX1_goForced 4 none) rm1_goForced SC 6 [(0, .ref (g + 7)), (1, .int x1), (2, .int x2), (3, .int (p.1))] [] p.2 (none, r) := by
  unfold f1_goForced_6 at h
  exact wloop_run (body := fun k6 p => f1_goForced_6_b g k6 x1 x2 p.1 p.2) (Q := fun p r => AR l RX1 cX1_goForced 4 none (wsU yX1_goForced cX1_goForced 4 none) rm1_goForced SC 6 [(0, .ref (g + 7)), (1, .int x1), (2, .int x2), (3, .int (p.1))] [] p.2 (none, r)) (fun k6 hk6 p r h => A1_goForced_6_b g hg k6 x1 x2 p.1 hk6 p.2 r h) fuelN p r h
set_option maxHeartbeats 4000000 in
set_option maxRecDepth 100000 in
theorem A1_goForced {l : Launch} (g : Nat) (hg : Grp g) (x1 : Int32) (x2 : Int32) (σ : HS) (r : HS) (h : f1_goForced g x1 x2 σ = some r) : MA l yX1_goForced (wsU yX1_goForced cX1_goForced 4 none) rm1_goForced SC [.ref (g + 7), .int x1, .int x2] σ (none, r) := by
  refine MA.of (L := [(0, .ref (g + 7)), (1, .int x1), (2, .int x2)]) pn_X1_goForced rfl (fun _ => Nat.le_of_ble_eq_true rfl) (fun _ => rfl) ?_
  unfold f1_goForced at h
  refine AR.aload_n (pc := 0) (j := 0) dX1_goForced_0 rfl rfl ?_
  obtain ⟨r1, h1, h⟩ := bd_some h
  refine AR.callV (pc := 1) (As := []) (st := []) (ci := 1) dX1_goForced_1 ⟨cd_X1_begin, im_X1_begin, se_X1_begin, ini_X1⟩ ml_X1_82 (A1_begin g hg σ _ h1) ⟨rfl, pd_X1_begin⟩ ⟨Nat.le_of_ble_eq_true rfl, Nat.le_of_ble_eq_true rfl⟩ ⟨rfl, rfl⟩ (gr7 hg) rfl rfl (Nat.le_of_ble_eq_true rfl) ?_
  refine AR.iconst (pc := 4) (v := 0) dX1_goForced_4 (by decide) ?_
  refine AR.istore_n (pc := 5) (L2 := [(3, .int 0), (0, .ref (g + 7)), (1, .int x1), (2, .int x2)]) dX1_goForced_5 rfl (by decide) rfl ?_
  exact AR.pick [1, 2, 3, 0] rfl (A1_goForced_6 g hg x1 x2 (0, r1) r h)
set_option maxHeartbeats 4000000 in
set_option maxRecDepth 100000 in
theorem A1_goFreely {l : Launch} (g : Nat) (hg : Grp g) (σ : HS) (r : HS) (h : f1_goFreely g σ = some r) : MA l yX1_goFreely (wsU yX1_goFreely cX1_goFreely 1 none) rm1_goFreely SC [.ref (g + 7)] σ (none, r) := by
  refine MA.of (L := [(0, .ref (g + 7))]) pn_X1_goFreely rfl (fun _ => Nat.le_of_ble_eq_true rfl) (fun _ => rfl) ?_
  unfold f1_goFreely at h
  refine AR.aload_n (pc := 0) (j := 0) dX1_goFreely_0 rfl rfl ?_
  refine AR.iconst (pc := 1) (v := (-1)) dX1_goFreely_1 (by decide) ?_
  refine AR.bipush (pc := 2) (v := (-9)) dX1_goFreely_2 (by decide) ?_
  obtain ⟨r1, h1, h⟩ := bd_some h
  refine AR.callV (pc := 4) (As := [.int (-1), .int (-9)]) (st := []) (ci := 1) dX1_goFreely_4 ⟨cd_X1_goForced, im_X1_goForced, se_X1_goForced, ini_X1⟩ ml_X1_78 (A1_goForced g hg (-1) (-9) σ _ h1) ⟨rfl, pd_X1_goForced⟩ ⟨Nat.le_of_ble_eq_true rfl, Nat.le_of_ble_eq_true rfl⟩ ⟨rfl, rfl⟩ (gr7 hg) rfl rfl (Nat.le_of_ble_eq_true rfl) ?_
  exact AR.vret (pc := 7) rfl dX1_goFreely_7 (hrV (Option.some.inj h))
set_option maxHeartbeats 4000000 in
set_option maxRecDepth 100000 in
theorem A1_saidIn {l : Launch} (g : Nat) (hg : Grp g) (x1 : Int32) (σ : HS) (r : Int32 × HS) (h : f1_saidIn g x1 σ = some r) : MA l yX1_saidIn (wsU yX1_saidIn cX1_saidIn 2 (some .int)) rm1_saidIn SC [.ref (g + 7), .int x1] σ (some (.int r.1), r.2) := by
  refine MA.of (L := [(0, .ref (g + 7)), (1, .int x1)]) pn_X1_saidIn rfl (fun _ => Nat.le_of_ble_eq_true rfl) (fun _ => rfl) ?_
  unfold f1_saidIn at h
  refine AR.aload_n (pc := 0) (j := 0) dX1_saidIn_0 rfl rfl ?_
  refine AR.getf (pc := 1) (ci := 1) (j := 3) (d := (g + 8) + 2) (v := .ref (g + 8)) (T := TX1) dX1_saidIn_1 (gr7 hg) rfl rfl (by decide) (fun w hw => wsU_in (uw_X1 w hw)) (wsU_in fl_X1_9) rfl ?_
  refine AR.iload_n (pc := 4) (j := 1) dX1_saidIn_4 rfl rfl ?_
  obtain ⟨r1, h1, h⟩ := bd_some h
  refine AR.callSN (pc := 5) (As := [.ref (g + 8), .int x1]) (st := []) dX1_saidIn_5 ⟨cd_X8_at, sm_X8_at, ini_X8⟩ mn_X1_95 (A8_at (g + 8) 6 (gr8 hg) x1 σ _ h1) pd_X8_at ⟨Nat.le_of_ble_eq_true rfl, Nat.le_of_ble_eq_true rfl⟩ ⟨rfl, rfl⟩ rfl (Nat.le_of_ble_eq_true rfl) ?_
  exact AR.iret (pc := 8) rfl dX1_saidIn_8 (hrI (Option.some.inj h))
set_option maxHeartbeats 4000000 in
set_option maxRecDepth 100000 in
theorem A1_waterIn {l : Launch} (x1 : Int32) (σ : HS) (r : Int32 × HS) (h : f1_waterIn x1 σ = some r) : MA l yX1_waterIn (wsU yX1_waterIn cX1_waterIn 2 (some .int)) rm1_waterIn SC [.ref 27, .int x1] σ (some (.int r.1), r.2) := by
  refine MA.of (L := [(0, .ref 27), (1, .int x1)]) pn_X1_waterIn rfl (fun _ => Nat.le_of_ble_eq_true rfl) (fun _ => rfl) ?_
  unfold f1_waterIn at h
  refine AR.aload_n (pc := 0) (j := 0) dX1_waterIn_0 rfl rfl ?_
  refine AR.getf (pc := 1) (ci := 1) (j := 4) (d := 29 + 2) (v := .ref 29) (T := TX1) dX1_waterIn_1 rfl rfl rfl (by decide) (fun w hw => wsU_in (uw_X1 w hw)) (wsU_in fl_X1_15) rfl ?_
  refine AR.iload_n (pc := 4) (j := 1) dX1_waterIn_4 rfl rfl ?_
  obtain ⟨r1, h1, h⟩ := bd_some h
  refine AR.callSN (pc := 5) (As := [.ref 29, .int x1]) (st := []) dX1_waterIn_5 ⟨cd_X8_at, sm_X8_at, ini_X8⟩ mn_X1_95 (A8_at 29 6 rfl x1 σ _ h1) pd_X8_at ⟨Nat.le_of_ble_eq_true rfl, Nat.le_of_ble_eq_true rfl⟩ ⟨rfl, rfl⟩ rfl (Nat.le_of_ble_eq_true rfl) ?_
  exact AR.iret (pc := 8) rfl dX1_waterIn_8 (hrI (Option.some.inj h))
set_option maxHeartbeats 4000000 in
set_option maxRecDepth 100000 in
theorem A1_hasSaid_39 {l : Launch} (k2 : Int32 × HS → Option (Int32 × HS)) (x1 : Int32) (x2 : Int32) (x3 : Int32) (hk2 : ∀ (p : Int32 × HS) (r : Int32 × HS), k2 p = some r → AR l RX1 cX1_hasSaid 4 (some .boolean) (wsU yX1_hasSaid cX1_hasSaid 4 (some .boolean)) rm1_hasSaid SC 2 [(0, .ref 27), (1, .int x1), (2, .int x2), (3, .int (p.1))] [] p.2 (some (.int r.1), r.2)) (σ : HS) (r : Int32 × HS) (h : f1_hasSaid_39 k2 x1 x2 x3 σ = some r) : AR l RX1 cX1_hasSaid 4 (some .boolean) (wsU yX1_hasSaid cX1_hasSaid 4 (some .boolean)) rm1_hasSaid SC 39 [(0, .ref 27), (1, .int x1), (2, .int x2), (3, .int x3)] [] σ (some (.int r.1), r.2) := by
  unfold f1_hasSaid_39 at h
  refine AR.iinc (pc := 39) (j := 3) (v := (x3 + 1)) (L2 := [(3, .int (x3 + 1)), (0, .ref 27), (1, .int x1), (2, .int x2)]) dX1_hasSaid_39 rfl rfl (by decide) rfl ?_
  refine AR.goto (pc := 42) (tgt := 2) dX1_hasSaid_42 (by decide) ?_
  exact AR.pick [1, 2, 3, 0] rfl (hk2 ((x3 + 1), σ) r h)
set_option maxHeartbeats 4000000 in
set_option maxRecDepth 100000 in
theorem A1_hasSaid_2_b {l : Launch} (k2 : Int32 × HS → Option (Int32 × HS)) (x1 : Int32) (x2 : Int32) (x3 : Int32) (hk2 : ∀ (p : Int32 × HS) (r : Int32 × HS), k2 p = some r → AR l RX1 cX1_hasSaid 4 (some .boolean) (wsU yX1_hasSaid cX1_hasSaid 4 (some .boolean)) rm1_hasSaid SC 2 [(0, .ref 27), (1, .int x1), (2, .int x2), (3, .int (p.1))] [] p.2 (some (.int r.1), r.2)) (σ : HS) (r : Int32 × HS) (h : f1_hasSaid_2_b k2 x1 x2 x3 σ = some r) : AR l RX1 cX1_hasSaid 4 (some .boolean) (wsU yX1_hasSaid cX1_hasSaid 4 (some .boolean)) rm1_hasSaid SC 2 [(0, .ref 27), (1, .int x1), (2, .int x2), (3, .int x3)] [] σ (some (.int r.1), r.2) := by
  unfold f1_hasSaid_2_b at h
  refine AR.iload_n (pc := 2) (j := 3) dX1_hasSaid_2 rfl rfl ?_
  refine AR.aload_n (pc := 3) (j := 0) dX1_hasSaid_3 rfl rfl ?_
  refine AR.getf (pc := 4) (ci := 1) (j := 5) (d := 0) (v := .int (σ.1 27 5)) (T := TX1) dX1_hasSaid_4 rfl rfl rfl (by decide) (fun w hw => wsU_in (uw_X1 w hw)) (wsU_in fl_X1_18) rfl ?_
  refine AR.icmp_ge (pc := 7) (tgt := 45) dX1_hasSaid_7 (by decide) (fun c1 => ?_) (fun c1 => ?_)
  · replace h := ite_t c1 h
    refine AR.iconst (pc := 45) (v := 0) dX1_hasSaid_45 (by decide) ?_
    exact AR.zret (pc := 46) rfl (Or.inl rfl) dX1_hasSaid_46 (hrI (Option.some.inj h))
  · replace h := ite_f c1 h
    refine AR.iload_n (pc := 10) (j := 3) dX1_hasSaid_10 rfl rfl ?_
    refine AR.bipush (pc := 11) (v := 6) dX1_hasSaid_11 (by decide) ?_
    refine AR.icmp_ge (pc := 13) (tgt := 45) dX1_hasSaid_13 (by decide) (fun c2 => ?_) (fun c2 => ?_)
    · replace h := ite_t c2 h
      refine AR.iconst (pc := 45) (v := 0) dX1_hasSaid_45 (by decide) ?_
      exact AR.zret (pc := 46) rfl (Or.inl rfl) dX1_hasSaid_46 (hrI (Option.some.inj h))
    · replace h := ite_f c2 h
      refine AR.aload_n (pc := 16) (j := 0) dX1_hasSaid_16 rfl rfl ?_
      refine AR.getf (pc := 17) (ci := 1) (j := 1) (d := 20 + 2) (v := .ref 20) (T := TX1) dX1_hasSaid_17 rfl rfl rfl (by decide) (fun w hw => wsU_in (uw_X1 w hw)) (wsU_in fl_X1_45) rfl ?_
      refine AR.iload_n (pc := 20) (j := 3) dX1_hasSaid_20 rfl rfl ?_
      obtain ⟨r3, h3, h⟩ := bd_some h
      refine AR.callVN (pc := 21) (As := [.int x3]) (st := []) (ci := 0) dX1_hasSaid_21 ⟨cd_X0_whoIn, im_X0_whoIn, se_X0_whoIn, ini_X0⟩ mn_X1_57 (A0_whoIn 20 grp20 x3 σ _ h3) ⟨rfl, pd_X0_whoIn⟩ ⟨Nat.le_of_ble_eq_true rfl, Nat.le_of_ble_eq_true rfl⟩ ⟨rfl, rfl⟩ rfl rfl rfl (Nat.le_of_ble_eq_true rfl) ?_
      refine AR.iload_n (pc := 24) (j := 1) dX1_hasSaid_24 rfl rfl ?_
      refine AR.icmp_ne (pc := 25) (tgt := 39) dX1_hasSaid_25 (by decide) (fun c4 => ?_) (fun c4 => ?_)
      · replace h := ite_f c4 h
        exact AR.pick [0, 1, 2, 3] rfl (A1_hasSaid_39 k2 x1 x2 x3 hk2 (r3.2) r h)
      · replace h := ite_t c4 h
        refine AR.aload_n (pc := 28) (j := 0) dX1_hasSaid_28 rfl rfl ?_
        refine AR.iload_n (pc := 29) (j := 3) dX1_hasSaid_29 rfl rfl ?_
        obtain ⟨r5, h5, h⟩ := bd_some h
        refine AR.callV (pc := 30) (As := [.int x3]) (st := []) (ci := 1) dX1_hasSaid_30 ⟨cd_X1_saidIn, im_X1_saidIn, se_X1_saidIn, ini_X1⟩ ml_X1_99 (A1_saidIn 20 grp20 x3 (r3.2) _ h5) ⟨rfl, pd_X1_saidIn⟩ ⟨Nat.le_of_ble_eq_true rfl, Nat.le_of_ble_eq_true rfl⟩ ⟨rfl, rfl⟩ rfl rfl rfl (Nat.le_of_ble_eq_true rfl) ?_
        refine AR.iload_n (pc := 33) (j := 2) dX1_hasSaid_33 rfl rfl ?_
        refine AR.icmp_ne (pc := 34) (tgt := 39) dX1_hasSaid_34 (by decide) (fun c6 => ?_) (fun c6 => ?_)
        · replace h := ite_f c6 h
          exact AR.pick [0, 1, 2, 3] rfl (A1_hasSaid_39 k2 x1 x2 x3 hk2 (r5.2) r h)
        · replace h := ite_t c6 h
          refine AR.iconst (pc := 37) (v := 1) dX1_hasSaid_37 (by decide) ?_
          exact AR.zret (pc := 38) rfl (Or.inr rfl) dX1_hasSaid_38 (hrI (Option.some.inj h))
theorem A1_hasSaid_2 {l : Launch} (x1 : Int32) (x2 : Int32) (p : Int32 × HS) (r : Int32 × HS) (h : f1_hasSaid_2 x1 x2 p = some r) : AR l RX1 cX1_hasSaid 4 (some .boolean) (wsU yX1_hasSaid cX1_hasSaid 4 (some .boolean)) rm1_hasSaid SC 2 [(0, .ref 27), (1, .int x1), (2, .int x2), (3, .int (p.1))] [] p.2 (some (.int r.1), r.2) := by
  unfold f1_hasSaid_2 at h
  exact wloop_run (body := fun k2 p => f1_hasSaid_2_b k2 x1 x2 p.1 p.2) (Q := fun p r => AR l RX1 cX1_hasSaid 4 (some .boolean) (wsU yX1_hasSaid cX1_hasSaid 4 (some .boolean)) rm1_hasSaid SC 2 [(0, .ref 27), (1, .int x1), (2, .int x2), (3, .int (p.1))] [] p.2 (some (.int r.1), r.2)) (fun k2 hk2 p r h => A1_hasSaid_2_b k2 x1 x2 p.1 hk2 p.2 r h) fuelN p r h
set_option maxHeartbeats 4000000 in
set_option maxRecDepth 100000 in
theorem A1_hasSaid {l : Launch} (x1 : Int32) (x2 : Int32) (σ : HS) (r : Int32 × HS) (h : f1_hasSaid x1 x2 σ = some r) : MA l yX1_hasSaid (wsU yX1_hasSaid cX1_hasSaid 4 (some .boolean)) rm1_hasSaid SC [.ref 27, .int x1, .int x2] σ (some (.int r.1), r.2) := by
  refine MA.of (L := [(0, .ref 27), (1, .int x1), (2, .int x2)]) pn_X1_hasSaid rfl (fun _ => Nat.le_of_ble_eq_true rfl) (fun _ => rfl) ?_
  unfold f1_hasSaid at h
  refine AR.iconst (pc := 0) (v := 0) dX1_hasSaid_0 (by decide) ?_
  refine AR.istore_n (pc := 1) (L2 := [(3, .int 0), (0, .ref 27), (1, .int x1), (2, .int x2)]) dX1_hasSaid_1 rfl (by decide) rfl ?_
  exact AR.pick [1, 2, 3, 0] rfl (A1_hasSaid_2 x1 x2 (0, σ) r h)
set_option maxHeartbeats 4000000 in
set_option maxRecDepth 100000 in
theorem A1_runAwayBy_56 {l : Launch} (k4 : Int32 × Int32 × HS → Option (Int32 × HS)) (x1 : Int32) (x2 : Int32) (x3 : Int32) (hk4 : ∀ (p : Int32 × Int32 × HS) (r : Int32 × HS), k4 p = some r → AR l RX1 cX1_runAwayBy 4 (some .int) (wsU yX1_runAwayBy cX1_runAwayBy 4 (some .int)) rm1_runAwayBy SC 4 [(0, .ref 27), (1, .int x1), (2, .int (p.1)), (3, .int (p.2.1))] [] p.2.2 (some (.int r.1), r.2)) (σ : HS) (r : Int32 × HS) (h : f1_runAwayBy_56 k4 x1 x2 x3 σ = some r) : AR l RX1 cX1_runAwayBy 4 (some .int) (wsU yX1_runAwayBy cX1_runAwayBy 4 (some .int)) rm1_runAwayBy SC 56 [(0, .ref 27), (1, .int x1), (2, .int x2), (3, .int x3)] [] σ (some (.int r.1), r.2) := by
  unfold f1_runAwayBy_56 at h
  refine AR.iinc (pc := 56) (j := 3) (v := (x3 + 1)) (L2 := [(3, .int (x3 + 1)), (0, .ref 27), (1, .int x1), (2, .int x2)]) dX1_runAwayBy_56 rfl rfl (by decide) rfl ?_
  refine AR.goto (pc := 59) (tgt := 4) dX1_runAwayBy_59 (by decide) ?_
  exact AR.pick [1, 2, 3, 0] rfl (hk4 (x2, (x3 + 1), σ) r h)
set_option maxHeartbeats 4000000 in
set_option maxRecDepth 100000 in
theorem A1_runAwayBy_4_b {l : Launch} (k4 : Int32 × Int32 × HS → Option (Int32 × HS)) (x1 : Int32) (x2 : Int32) (x3 : Int32) (hk4 : ∀ (p : Int32 × Int32 × HS) (r : Int32 × HS), k4 p = some r → AR l RX1 cX1_runAwayBy 4 (some .int) (wsU yX1_runAwayBy cX1_runAwayBy 4 (some .int)) rm1_runAwayBy SC 4 [(0, .ref 27), (1, .int x1), (2, .int (p.1)), (3, .int (p.2.1))] [] p.2.2 (some (.int r.1), r.2)) (σ : HS) (r : Int32 × HS) (h : f1_runAwayBy_4_b k4 x1 x2 x3 σ = some r) : AR l RX1 cX1_runAwayBy 4 (some .int) (wsU yX1_runAwayBy cX1_runAwayBy 4 (some .int)) rm1_runAwayBy SC 4 [(0, .ref 27), (1, .int x1), (2, .int x2), (3, .int x3)] [] σ (some (.int r.1), r.2) := by
  unfold f1_runAwayBy_4_b at h
  refine AR.iload_n (pc := 4) (j := 3) dX1_runAwayBy_4 rfl rfl ?_
  refine AR.aload_n (pc := 5) (j := 0) dX1_runAwayBy_5 rfl rfl ?_
  refine AR.getf (pc := 6) (ci := 1) (j := 5) (d := 0) (v := .int (σ.1 27 5)) (T := TX1) dX1_runAwayBy_6 rfl rfl rfl (by decide) (fun w hw => wsU_in (uw_X1 w hw)) (wsU_in fl_X1_18) rfl ?_
  refine AR.icmp_ge (pc := 9) (tgt := 62) dX1_runAwayBy_9 (by decide) (fun c1 => ?_) (fun c1 => ?_)
  · replace h := ite_t c1 h
    refine AR.iload_n (pc := 62) (j := 2) dX1_runAwayBy_62 rfl rfl ?_
    exact AR.iret (pc := 63) rfl dX1_runAwayBy_63 (hrI (Option.some.inj h))
  · replace h := ite_f c1 h
    refine AR.iload_n (pc := 12) (j := 3) dX1_runAwayBy_12 rfl rfl ?_
    refine AR.bipush (pc := 13) (v := 6) dX1_runAwayBy_13 (by decide) ?_
    refine AR.icmp_ge (pc := 15) (tgt := 62) dX1_runAwayBy_15 (by decide) (fun c2 => ?_) (fun c2 => ?_)
    · replace h := ite_t c2 h
      refine AR.iload_n (pc := 62) (j := 2) dX1_runAwayBy_62 rfl rfl ?_
      exact AR.iret (pc := 63) rfl dX1_runAwayBy_63 (hrI (Option.some.inj h))
    · replace h := ite_f c2 h
      refine AR.aload_n (pc := 18) (j := 0) dX1_runAwayBy_18 rfl rfl ?_
      refine AR.getf (pc := 19) (ci := 1) (j := 1) (d := 20 + 2) (v := .ref 20) (T := TX1) dX1_runAwayBy_19 rfl rfl rfl (by decide) (fun w hw => wsU_in (uw_X1 w hw)) (wsU_in fl_X1_45) rfl ?_
      refine AR.iload_n (pc := 22) (j := 3) dX1_runAwayBy_22 rfl rfl ?_
      obtain ⟨r3, h3, h⟩ := bd_some h
      refine AR.callVN (pc := 23) (As := [.int x3]) (st := []) (ci := 0) dX1_runAwayBy_23 ⟨cd_X0_whoIn, im_X0_whoIn, se_X0_whoIn, ini_X0⟩ mn_X1_57 (A0_whoIn 20 grp20 x3 σ _ h3) ⟨rfl, pd_X0_whoIn⟩ ⟨Nat.le_of_ble_eq_true rfl, Nat.le_of_ble_eq_true rfl⟩ ⟨rfl, rfl⟩ rfl rfl rfl (Nat.le_of_ble_eq_true rfl) ?_
      refine AR.iload_n (pc := 26) (j := 1) dX1_runAwayBy_26 rfl rfl ?_
      refine AR.icmp_ne (pc := 27) (tgt := 56) dX1_runAwayBy_27 (by decide) (fun c4 => ?_) (fun c4 => ?_)
      · replace h := ite_f c4 h
        exact AR.pick [0, 1, 2, 3] rfl (A1_runAwayBy_56 k4 x1 x2 x3 hk4 (r3.2) r h)
      · replace h := ite_t c4 h
        refine AR.aload_n (pc := 30) (j := 0) dX1_runAwayBy_30 rfl rfl ?_
        refine AR.iload_n (pc := 31) (j := 3) dX1_runAwayBy_31 rfl rfl ?_
        obtain ⟨r5, h5, h⟩ := bd_some h
        refine AR.callV (pc := 32) (As := [.int x3]) (st := []) (ci := 1) dX1_runAwayBy_32 ⟨cd_X1_saidIn, im_X1_saidIn, se_X1_saidIn, ini_X1⟩ ml_X1_99 (A1_saidIn 20 grp20 x3 (r3.2) _ h5) ⟨rfl, pd_X1_saidIn⟩ ⟨Nat.le_of_ble_eq_true rfl, Nat.le_of_ble_eq_true rfl⟩ ⟨rfl, rfl⟩ rfl rfl rfl (Nat.le_of_ble_eq_true rfl) ?_
        refine AR.bipush (pc := 35) (v := (-9)) dX1_runAwayBy_35 (by decide) ?_
        refine AR.icmp_eq (pc := 37) (tgt := 56) dX1_runAwayBy_37 (by decide) (fun c6 => ?_) (fun c6 => ?_)
        · replace h := ite_t c6 h
          exact AR.pick [0, 1, 2, 3] rfl (A1_runAwayBy_56 k4 x1 x2 x3 hk4 (r5.2) r h)
        · replace h := ite_f c6 h
          refine AR.iload_n (pc := 40) (j := 2) dX1_runAwayBy_40 rfl rfl ?_
          refine AR.aload_n (pc := 41) (j := 0) dX1_runAwayBy_41 rfl rfl ?_
          refine AR.getf (pc := 42) (ci := 1) (j := 2) (d := 5 + 2) (v := .ref 5) (T := TX1) dX1_runAwayBy_42 rfl rfl rfl (by decide) (fun w hw => wsU_in (uw_X1 w hw)) (wsU_in fl_X1_52) rfl ?_
          refine AR.iload_n (pc := 45) (j := 1) dX1_runAwayBy_45 rfl rfl ?_
          refine AR.aload_n (pc := 46) (j := 0) dX1_runAwayBy_46 rfl rfl ?_
          refine AR.iload_n (pc := 47) (j := 3) dX1_runAwayBy_47 rfl rfl ?_
          obtain ⟨r7, h7, h⟩ := bd_some h
          refine AR.callV (pc := 48) (As := [.int x3]) (st := [.int x1, .ref 5, .int x2]) (ci := 1) dX1_runAwayBy_48 ⟨cd_X1_saidIn, im_X1_saidIn, se_X1_saidIn, ini_X1⟩ ml_X1_99 (A1_saidIn 20 grp20 x3 (r5.2) _ h7) ⟨rfl, pd_X1_saidIn⟩ ⟨Nat.le_of_ble_eq_true rfl, Nat.le_of_ble_eq_true rfl⟩ ⟨rfl, rfl⟩ rfl rfl rfl (Nat.le_of_ble_eq_true rfl) ?_
          obtain ⟨r8, h8, h⟩ := bd_some h
          refine AR.callVN (pc := 51) (As := [.int x1, .int (r7.1)]) (st := [.int x2]) (ci := 4) dX1_runAwayBy_51 ⟨cd_X4_lengthOf, im_X4_lengthOf, se_X4_lengthOf, ini_X4⟩ mn_X1_65 (A4_lengthOf 5 ppl5 x1 (r7.1) (r7.2) _ h8) ⟨rfl, pd_X4_lengthOf⟩ ⟨Nat.le_of_ble_eq_true rfl, Nat.le_of_ble_eq_true rfl⟩ ⟨rfl, rfl⟩ rfl rfl rfl (Nat.le_of_ble_eq_true rfl) ?_
          refine AR.iadd (pc := 54) dX1_runAwayBy_54 ?_
          refine AR.istore_n (pc := 55) (L2 := [(2, .int (x2 + (r8.1))), (0, .ref 27), (1, .int x1), (3, .int x3)]) dX1_runAwayBy_55 rfl (by decide) rfl ?_
          exact AR.pick [1, 2, 0, 3] rfl (A1_runAwayBy_56 k4 x1 (x2 + (r8.1)) x3 hk4 (r8.2) r h)
theorem A1_runAwayBy_4 {l : Launch} (x1 : Int32) (p : Int32 × Int32 × HS) (r : Int32 × HS) (h : f1_runAwayBy_4 x1 p = some r) : AR l RX1 cX1_runAwayBy 4 (some .int) (wsU yX1_runAwayBy cX1_runAwayBy 4 (some .int)) rm1_runAwayBy SC 4 [(0, .ref 27), (1, .int x1), (2, .int (p.1)), (3, .int (p.2.1))] [] p.2.2 (some (.int r.1), r.2) := by
  unfold f1_runAwayBy_4 at h
  exact wloop_run (body := fun k4 p => f1_runAwayBy_4_b k4 x1 p.1 p.2.1 p.2.2) (Q := fun p r => AR l RX1 cX1_runAwayBy 4 (some .int) (wsU yX1_runAwayBy cX1_runAwayBy 4 (some .int)) rm1_runAwayBy SC 4 [(0, .ref 27), (1, .int x1), (2, .int (p.1)), (3, .int (p.2.1))] [] p.2.2 (some (.int r.1), r.2)) (fun k4 hk4 p r h => A1_runAwayBy_4_b k4 x1 p.1 p.2.1 hk4 p.2.2 r h) fuelN p r h
set_option maxHeartbeats 4000000 in
set_option maxRecDepth 100000 in
theorem A1_runAwayBy {l : Launch} (x1 : Int32) (σ : HS) (r : Int32 × HS) (h : f1_runAwayBy x1 σ = some r) : MA l yX1_runAwayBy (wsU yX1_runAwayBy cX1_runAwayBy 4 (some .int)) rm1_runAwayBy SC [.ref 27, .int x1] σ (some (.int r.1), r.2) := by
  refine MA.of (L := [(0, .ref 27), (1, .int x1)]) pn_X1_runAwayBy rfl (fun _ => Nat.le_of_ble_eq_true rfl) (fun _ => rfl) ?_
  unfold f1_runAwayBy at h
  refine AR.iconst (pc := 0) (v := 0) dX1_runAwayBy_0 (by decide) ?_
  refine AR.istore_n (pc := 1) (L2 := [(2, .int 0), (0, .ref 27), (1, .int x1)]) dX1_runAwayBy_1 rfl (by decide) rfl ?_
  refine AR.iconst (pc := 2) (v := 0) dX1_runAwayBy_2 (by decide) ?_
  refine AR.istore_n (pc := 3) (L2 := [(3, .int 0), (2, .int 0), (0, .ref 27), (1, .int x1)]) dX1_runAwayBy_3 rfl (by decide) rfl ?_
  exact AR.pick [2, 3, 1, 0] rfl (A1_runAwayBy_4 x1 (0, 0, σ) r h)
set_option maxHeartbeats 4000000 in
set_option maxRecDepth 100000 in
theorem A2_clear {l : Launch} (σ : HS) (r : HS) (h : f2_clear σ = some r) : MA l yX2_clear (wsU yX2_clear cX2_clear 1 none) rm2_clear SC [.ref 40] σ (none, r) := by
  refine MA.of (L := [(0, .ref 40)]) pn_X2_clear rfl (fun _ => Nat.le_of_ble_eq_true rfl) (fun _ => rfl) ?_
  unfold f2_clear at h
  refine AR.aload_n (pc := 0) (j := 0) dX2_clear_0 rfl rfl ?_
  refine AR.iconst (pc := 1) (v := 0) dX2_clear_1 (by decide) ?_
  refine AR.putI (pc := 2) (ci := 2) (j := 3) (T := TX2) (ty0 := tyX2) (ty := .int) dX2_clear_2 rfl rfl rfl (by decide) (fun w hw => wsU_in (uw_X2 w hw)) tyX2_ok nmX2 (wsU_in fl_X2_21) rfl (by decide +kernel) rfl rfl ?_
  exact AR.vret (pc := 5) rfl dX2_clear_5 (hrV (Option.some.inj h))
set_option maxHeartbeats 4000000 in
set_option maxRecDepth 100000 in
theorem A2_note {l : Launch} (x1 : Int32) (x2 : Int32) (σ : HS) (r : HS) (h : f2_note x1 x2 σ = some r) : MA l yX2_note (wsU yX2_note cX2_note 3 none) rm2_note SC [.ref 40, .int x1, .int x2] σ (none, r) := by
  refine MA.of (L := [(0, .ref 40), (1, .int x1), (2, .int x2)]) pn_X2_note rfl (fun _ => Nat.le_of_ble_eq_true rfl) (fun _ => rfl) ?_
  unfold f2_note at h
  refine AR.aload_n (pc := 0) (j := 0) dX2_note_0 rfl rfl ?_
  refine AR.getf (pc := 1) (ci := 2) (j := 0) (d := 41 + 2) (v := .ref 41) (T := TX2) dX2_note_1 rfl rfl rfl (by decide) (fun w hw => wsU_in (uw_X2 w hw)) (wsU_in fl_X2_9) rfl ?_
  refine AR.aload_n (pc := 4) (j := 0) dX2_note_4 rfl rfl ?_
  refine AR.getf (pc := 5) (ci := 2) (j := 3) (d := 0) (v := .int (σ.1 40 3)) (T := TX2) dX2_note_5 rfl rfl rfl (by decide) (fun w hw => wsU_in (uw_X2 w hw)) (wsU_in fl_X2_21) rfl ?_
  refine AR.bipush (pc := 8) (v := 6) dX2_note_8 (by decide) ?_
  refine AR.imul (pc := 10) dX2_note_10 ?_
  refine AR.iload_n (pc := 11) (j := 1) dX2_note_11 rfl rfl ?_
  refine AR.iadd (pc := 12) dX2_note_12 ?_
  refine AR.iload_n (pc := 13) (j := 2) dX2_note_13 rfl rfl ?_
  obtain ⟨r1, h1, h⟩ := bd_some h
  refine AR.callSN (pc := 14) (As := [.ref 41, .int (((σ.1 40 3) * 6) + x1), .int x2]) (st := []) dX2_note_14 ⟨cd_X8_set, sm_X8_set, ini_X8⟩ mn_X2_25 (A8_set 41 36 rfl (((σ.1 40 3) * 6) + x1) x2 σ _ h1) pd_X8_set ⟨Nat.le_of_ble_eq_true rfl, Nat.le_of_ble_eq_true rfl⟩ ⟨rfl, rfl⟩ rfl (Nat.le_of_ble_eq_true rfl) ?_
  exact AR.vret (pc := 17) rfl dX2_note_17 (hrV (Option.some.inj h))
set_option maxHeartbeats 4000000 in
set_option maxRecDepth 100000 in
theorem A2_close {l : Launch} (x1 : Int32) (σ : HS) (r : Int32 × HS) (h : f2_close x1 σ = some r) : MA l yX2_close (wsU yX2_close cX2_close 3 (some .int)) rm2_close SC [.ref 40, .int x1] σ (some (.int r.1), r.2) := by
  refine MA.of (L := [(0, .ref 40), (1, .int x1)]) pn_X2_close rfl (fun _ => Nat.le_of_ble_eq_true rfl) (fun _ => rfl) ?_
  unfold f2_close at h
  refine AR.aload_n (pc := 0) (j := 0) dX2_close_0 rfl rfl ?_
  refine AR.getf (pc := 1) (ci := 2) (j := 3) (d := 0) (v := .int (σ.1 40 3)) (T := TX2) dX2_close_1 rfl rfl rfl (by decide) (fun w hw => wsU_in (uw_X2 w hw)) (wsU_in fl_X2_21) rfl ?_
  refine AR.istore_n (pc := 4) (L2 := [(2, .int (σ.1 40 3)), (0, .ref 40), (1, .int x1)]) dX2_close_4 rfl (by decide) rfl ?_
  refine AR.aload_n (pc := 5) (j := 1) dX2_close_5 rfl rfl ?_
  refine AR.getf (pc := 6) (ci := 2) (j := 1) (d := 42 + 2) (v := .ref 42) (T := TX2) dX2_close_6 rfl rfl rfl (by decide) (fun w hw => wsU_in (uw_X2 w hw)) (wsU_in fl_X2_15) rfl ?_
  refine AR.iload_n (pc := 9) (j := 0) dX2_close_9 rfl rfl ?_
  refine AR.iload_n (pc := 10) (j := 2) dX2_close_10 rfl rfl ?_
  obtain ⟨r1, h1, h⟩ := bd_some h
  refine AR.callSN (pc := 11) (As := [.ref 42, .int (σ.1 40 3), .int x1]) (st := []) dX2_close_11 ⟨cd_X8_set, sm_X8_set, ini_X8⟩ mn_X2_25 (A8_set 42 6 rfl (σ.1 40 3) x1 σ _ h1) pd_X8_set ⟨Nat.le_of_ble_eq_true rfl, Nat.le_of_ble_eq_true rfl⟩ ⟨rfl, rfl⟩ rfl (Nat.le_of_ble_eq_true rfl) ?_
  refine AR.aload_n (pc := 14) (j := 1) dX2_close_14 rfl rfl ?_
  refine AR.dup (pc := 15) dX2_close_15 rfl ?_
  refine AR.getf (pc := 16) (ci := 2) (j := 3) (d := 0) (v := .int (r1.1 40 3)) (T := TX2) dX2_close_16 rfl rfl rfl (by decide) (fun w hw => wsU_in (uw_X2 w hw)) (wsU_in fl_X2_21) rfl ?_
  refine AR.iconst (pc := 19) (v := 1) dX2_close_19 (by decide) ?_
  refine AR.iadd (pc := 20) dX2_close_20 ?_
  refine AR.putI (pc := 21) (ci := 2) (j := 3) (T := TX2) (ty0 := tyX2) (ty := .int) dX2_close_21 rfl rfl rfl (by decide) (fun w hw => wsU_in (uw_X2 w hw)) tyX2_ok nmX2 (wsU_in fl_X2_21) rfl (by decide +kernel) rfl rfl ?_
  refine AR.iload_n (pc := 24) (j := 0) dX2_close_24 rfl rfl ?_
  exact AR.iret (pc := 25) rfl dX2_close_25 (hrI (Option.some.inj h))
set_option maxHeartbeats 4000000 in
set_option maxRecDepth 100000 in
theorem A2_goBy_6_b {l : Launch} (k6 : Int32 × HS → Option (HS)) (x1 : Int32) (x3 : Int32) (hk6 : ∀ (p : Int32 × HS) (r : HS), k6 p = some r → AR l RX2 cX2_goBy 4 none (wsU yX2_goBy cX2_goBy 4 none) rm2_goBy SC 6 [(0, .ref 40), (1, .int x1), (2, .ref 37), (3, .int (p.1))] [] p.2 (none, r)) (σ : HS) (r : HS) (h : f2_goBy_6_b k6 x1 x3 σ = some r) : AR l RX2 cX2_goBy 4 none (wsU yX2_goBy cX2_goBy 4 none) rm2_goBy SC 6 [(0, .ref 40), (1, .int x1), (2, .ref 37), (3, .int x3)] [] σ (none, r) := by
  unfold f2_goBy_6_b at h
  refine AR.iload_n (pc := 6) (j := 3) dX2_goBy_6 rfl rfl ?_
  refine AR.aload_n (pc := 7) (j := 2) dX2_goBy_7 rfl rfl ?_
  refine AR.getfN (pc := 8) (ci := 1) (j := 1) (d := 30 + 2) (v := .ref 30) (T := TX1) dX2_goBy_8 rfl rfl rfl (by decide) (fun w hw => wsU_in (uw_X1 w hw)) fn_X2_50 rfl ?_
  obtain ⟨r1, h1, h⟩ := bd_some h
  refine AR.callVN (pc := 11) (As := []) (st := [.int x3]) (ci := 0) dX2_goBy_11 ⟨cd_X0_turns, im_X0_turns, se_X0_turns, ini_X0⟩ mn_X2_54 (A0_turns 30 grp30 σ _ h1) ⟨rfl, pd_X0_turns⟩ ⟨Nat.le_of_ble_eq_true rfl, Nat.le_of_ble_eq_true rfl⟩ ⟨rfl, rfl⟩ rfl rfl rfl (Nat.le_of_ble_eq_true rfl) ?_
  refine AR.icmp_ge (pc := 14) (tgt := 46) dX2_goBy_14 (by decide) (fun c2 => ?_) (fun c2 => ?_)
  · replace h := ite_t c2 h
    exact AR.vret (pc := 46) rfl dX2_goBy_46 (hrV (Option.some.inj h))
  · replace h := ite_f c2 h
    refine AR.iload_n (pc := 17) (j := 3) dX2_goBy_17 rfl rfl ?_
    refine AR.bipush (pc := 18) (v := 6) dX2_goBy_18 (by decide) ?_
    refine AR.icmp_ge (pc := 20) (tgt := 46) dX2_goBy_20 (by decide) (fun c3 => ?_) (fun c3 => ?_)
    · replace h := ite_t c3 h
      exact AR.vret (pc := 46) rfl dX2_goBy_46 (hrV (Option.some.inj h))
    · replace h := ite_f c3 h
      refine AR.aload_n (pc := 23) (j := 2) dX2_goBy_23 rfl rfl ?_
      refine AR.aload_n (pc := 24) (j := 0) dX2_goBy_24 rfl rfl ?_
      refine AR.getf (pc := 25) (ci := 2) (j := 0) (d := 41 + 2) (v := .ref 41) (T := TX2) dX2_goBy_25 rfl rfl rfl (by decide) (fun w hw => wsU_in (uw_X2 w hw)) (wsU_in fl_X2_9) rfl ?_
      refine AR.iload_n (pc := 28) (j := 1) dX2_goBy_28 rfl rfl ?_
      refine AR.bipush (pc := 29) (v := 6) dX2_goBy_29 (by decide) ?_
      refine AR.imul (pc := 31) dX2_goBy_31 ?_
      refine AR.iload_n (pc := 32) (j := 3) dX2_goBy_32 rfl rfl ?_
      refine AR.iadd (pc := 33) dX2_goBy_33 ?_
      obtain ⟨r4, h4, h⟩ := bd_some h
      refine AR.callSN (pc := 34) (As := [.ref 41, .int ((x1 * 6) + x3)]) (st := [.ref 37]) dX2_goBy_34 ⟨cd_X8_at, sm_X8_at, ini_X8⟩ mn_X2_43 (A8_at 41 36 rfl ((x1 * 6) + x3) (r1.2) _ h4) pd_X8_at ⟨Nat.le_of_ble_eq_true rfl, Nat.le_of_ble_eq_true rfl⟩ ⟨rfl, rfl⟩ rfl (Nat.le_of_ble_eq_true rfl) ?_
      obtain ⟨r5, h5, h⟩ := bd_some h
      refine AR.callVN (pc := 37) (As := [.int (r4.1)]) (st := []) (ci := 1) dX2_goBy_37 ⟨cd_X1_speak, im_X1_speak, se_X1_speak, ini_X1⟩ mn_X2_58 (A1_speak 30 grp30 (r4.1) (r4.2) _ h5) ⟨rfl, pd_X1_speak⟩ ⟨Nat.le_of_ble_eq_true rfl, Nat.le_of_ble_eq_true rfl⟩ ⟨rfl, rfl⟩ rfl rfl rfl (Nat.le_of_ble_eq_true rfl) ?_
      refine AR.iinc (pc := 40) (j := 3) (v := (x3 + 1)) (L2 := [(3, .int (x3 + 1)), (0, .ref 40), (1, .int x1), (2, .ref 37)]) dX2_goBy_40 rfl rfl (by decide) rfl ?_
      refine AR.goto (pc := 43) (tgt := 6) dX2_goBy_43 (by decide) ?_
      exact AR.pick [1, 2, 3, 0] rfl (hk6 ((x3 + 1), r5) r h)
theorem A2_goBy_6 {l : Launch} (x1 : Int32) (p : Int32 × HS) (r : HS) (h : f2_goBy_6 x1 p = some r) : AR l RX2 cX2_goBy 4 none (wsU yX2_goBy cX2_goBy 4 none) rm2_goBy SC 6 [(0, .ref 40), (1, .int x1), (2, .ref 37), (3, .int (p.1))] [] p.2 (none, r) := by
  unfold f2_goBy_6 at h
  exact wloop_run (body := fun k6 p => f2_goBy_6_b k6 x1 p.1 p.2) (Q := fun p r => AR l RX2 cX2_goBy 4 none (wsU yX2_goBy cX2_goBy 4 none) rm2_goBy SC 6 [(0, .ref 40), (1, .int x1), (2, .ref 37), (3, .int (p.1))] [] p.2 (none, r)) (fun k6 hk6 p r h => A2_goBy_6_b k6 x1 p.1 hk6 p.2 r h) fuelN p r h
set_option maxHeartbeats 4000000 in
set_option maxRecDepth 100000 in
theorem A2_goBy {l : Launch} (x1 : Int32) (σ : HS) (r : HS) (h : f2_goBy x1 σ = some r) : MA l yX2_goBy (wsU yX2_goBy cX2_goBy 4 none) rm2_goBy SC [.ref 40, .int x1, .ref 37] σ (none, r) := by
  refine MA.of (L := [(0, .ref 40), (1, .int x1), (2, .ref 37)]) pn_X2_goBy rfl (fun _ => Nat.le_of_ble_eq_true rfl) (fun _ => rfl) ?_
  unfold f2_goBy at h
  refine AR.aload_n (pc := 0) (j := 2) dX2_goBy_0 rfl rfl ?_
  obtain ⟨r1, h1, h⟩ := bd_some h
  refine AR.callVN (pc := 1) (As := []) (st := []) (ci := 1) dX2_goBy_1 ⟨cd_X1_begin, im_X1_begin, se_X1_begin, ini_X1⟩ mn_X2_47 (A1_begin 30 grp30 σ _ h1) ⟨rfl, pd_X1_begin⟩ ⟨Nat.le_of_ble_eq_true rfl, Nat.le_of_ble_eq_true rfl⟩ ⟨rfl, rfl⟩ rfl rfl rfl (Nat.le_of_ble_eq_true rfl) ?_
  refine AR.iconst (pc := 4) (v := 0) dX2_goBy_4 (by decide) ?_
  refine AR.istore_n (pc := 5) (L2 := [(3, .int 0), (0, .ref 40), (1, .int x1), (2, .ref 37)]) dX2_goBy_5 rfl (by decide) rfl ?_
  exact AR.pick [1, 2, 3, 0] rfl (A2_goBy_6 x1 (0, r1) r h)
set_option maxHeartbeats 4000000 in
set_option maxRecDepth 100000 in
theorem A2_compare_65 {l : Launch} (k2 : Int32 × HS → Option (HS)) (k22 : Int32 × Int32 × HS → Option (HS)) (x3 : Int32) (x4 : Int32) (x5 : Int32) (hk2 : ∀ (p : Int32 × HS) (r : HS), k2 p = some r → AR l RX2 cX2_compare 6 none (wsU yX2_compare cX2_compare 6 none) rm2_compare SC 2 [(0, .ref 40), (1, .ref 30), (2, .ref 37), (3, .int (p.1))] [] p.2 (none, r)) (hk22 : ∀ (p : Int32 × Int32 × HS) (r : HS), k22 p = some r → AR l RX2 cX2_compare 6 none (wsU yX2_compare cX2_compare 6 none) rm2_compare SC 22 [(0, .ref 40), (1, .ref 30), (2, .ref 37), (3, .int x3), (4, .int (p.1)), (5, .int (p.2.1))] [] p.2.2 (none, r)) (σ : HS) (r : HS) (h : f2_compare_65 k2 k22 x3 x4 x5 σ = some r) : AR l RX2 cX2_compare 6 none (wsU yX2_compare cX2_compare 6 none) rm2_compare SC 65 [(0, .ref 40), (1, .ref 30), (2, .ref 37), (3, .int x3), (4, .int x4), (5, .int x5)] [] σ (none, r) := by
  unfold f2_compare_65 at h
  refine AR.iinc (pc := 65) (j := 5) (v := (x5 + 1)) (L2 := [(5, .int (x5 + 1)), (0, .ref 40), (1, .ref 30), (2, .ref 37), (3, .int x3), (4, .int x4)]) dX2_compare_65 rfl rfl (by decide) rfl ?_
  refine AR.goto (pc := 68) (tgt := 22) dX2_compare_68 (by decide) ?_
  exact AR.pick [1, 2, 3, 4, 5, 0] rfl (hk22 (x4, (x5 + 1), σ) r h)
set_option maxHeartbeats 4000000 in
set_option maxRecDepth 100000 in
theorem A2_compare_22_b {l : Launch} (k2 : Int32 × HS → Option (HS)) (k22 : Int32 × Int32 × HS → Option (HS)) (x3 : Int32) (x4 : Int32) (x5 : Int32) (hk2 : ∀ (p : Int32 × HS) (r : HS), k2 p = some r → AR l RX2 cX2_compare 6 none (wsU yX2_compare cX2_compare 6 none) rm2_compare SC 2 [(0, .ref 40), (1, .ref 30), (2, .ref 37), (3, .int (p.1))] [] p.2 (none, r)) (hk22 : ∀ (p : Int32 × Int32 × HS) (r : HS), k22 p = some r → AR l RX2 cX2_compare 6 none (wsU yX2_compare cX2_compare 6 none) rm2_compare SC 22 [(0, .ref 40), (1, .ref 30), (2, .ref 37), (3, .int x3), (4, .int (p.1)), (5, .int (p.2.1))] [] p.2.2 (none, r)) (σ : HS) (r : HS) (h : f2_compare_22_b k2 k22 x3 x4 x5 σ = some r) : AR l RX2 cX2_compare 6 none (wsU yX2_compare cX2_compare 6 none) rm2_compare SC 22 [(0, .ref 40), (1, .ref 30), (2, .ref 37), (3, .int x3), (4, .int x4), (5, .int x5)] [] σ (none, r) := by
  unfold f2_compare_22_b at h
  refine AR.iload (pc := 22) (j := 5) dX2_compare_22 rfl ?_
  refine AR.bipush (pc := 24) (v := 9) dX2_compare_24 (by decide) ?_
  refine AR.icmp_gt (pc := 26) (tgt := 71) dX2_compare_26 (by decide) (fun c1 => ?_) (fun c1 => ?_)
  · replace h := ite_t c1 h
    refine AR.aload_n (pc := 71) (j := 0) dX2_compare_71 rfl rfl ?_
    refine AR.getf (pc := 72) (ci := 2) (j := 2) (d := 43 + 2) (v := .ref 43) (T := TX2) dX2_compare_72 rfl rfl rfl (by decide) (fun w hw => wsU_in (uw_X2 w hw)) (wsU_in fl_X2_18) rfl ?_
    refine AR.iload_n (pc := 75) (j := 3) dX2_compare_75 rfl rfl ?_
    refine AR.iload (pc := 76) (j := 4) dX2_compare_76 rfl ?_
    obtain ⟨r2, h2, h⟩ := bd_some h
    refine AR.callSN (pc := 78) (As := [.ref 43, .int x3, .int x4]) (st := []) dX2_compare_78 ⟨cd_X8_set, sm_X8_set, ini_X8⟩ mn_X2_25 (A8_set 43 6 rfl x3 x4 σ _ h2) pd_X8_set ⟨Nat.le_of_ble_eq_true rfl, Nat.le_of_ble_eq_true rfl⟩ ⟨rfl, rfl⟩ rfl (Nat.le_of_ble_eq_true rfl) ?_
    refine AR.iinc (pc := 81) (j := 3) (v := (x3 + 1)) (L2 := [(3, .int (x3 + 1)), (0, .ref 40), (1, .ref 30), (2, .ref 37), (4, .int x4), (5, .int x5)]) dX2_compare_81 rfl rfl (by decide) rfl ?_
    refine AR.goto (pc := 84) (tgt := 2) dX2_compare_84 (by decide) ?_
    exact AR.pick [1, 2, 3, 0] rfl (hk2 ((x3 + 1), r2) r h)
  · replace h := ite_f c1 h
    refine AR.aload_n (pc := 29) (j := 1) dX2_compare_29 rfl rfl ?_
    refine AR.iload (pc := 30) (j := 5) dX2_compare_30 rfl ?_
    refine AR.putIN (pc := 32) (ci := 0) (j := 3) (T := TX0) (ty0 := tyX0) (ty := .int) dX2_compare_32 rfl rfl rfl (by decide) (fun w hw => wsU_in (uw_X0 w hw)) tyX0_ok nmX0 fn_X2_29 rfl (by decide +kernel) rfl rfl ?_
    refine AR.aload_n (pc := 35) (j := 0) dX2_compare_35 rfl rfl ?_
    refine AR.iload_n (pc := 36) (j := 3) dX2_compare_36 rfl rfl ?_
    refine AR.aload_n (pc := 37) (j := 2) dX2_compare_37 rfl rfl ?_
    obtain ⟨r3, h3, h⟩ := bd_some h
    refine AR.callV (pc := 38) (As := [.int x3, .ref 37]) (st := []) (ci := 2) dX2_compare_38 ⟨cd_X2_goBy, im_X2_goBy, se_X2_goBy, ini_X2⟩ ml_X2_34 (A2_goBy x3 (uI σ 30 3 x5) _ h3) ⟨rfl, pd_X2_goBy⟩ ⟨Nat.le_of_ble_eq_true rfl, Nat.le_of_ble_eq_true rfl⟩ ⟨rfl, rfl⟩ rfl rfl rfl (Nat.le_of_ble_eq_true rfl) ?_
    refine AR.aload_n (pc := 41) (j := 2) dX2_compare_41 rfl rfl ?_
    refine AR.getfN (pc := 42) (ci := 1) (j := 6) (d := 0) (v := .int (r3.1 37 6)) (T := TX1) dX2_compare_42 rfl rfl rfl (by decide) (fun w hw => wsU_in (uw_X1 w hw)) fn_X2_38 rfl ?_
    refine AR.aload_n (pc := 45) (j := 0) dX2_compare_45 rfl rfl ?_
    refine AR.getf (pc := 46) (ci := 2) (j := 1) (d := 42 + 2) (v := .ref 42) (T := TX2) dX2_compare_46 rfl rfl rfl (by decide) (fun w hw => wsU_in (uw_X2 w hw)) (wsU_in fl_X2_15) rfl ?_
    refine AR.iload_n (pc := 49) (j := 3) dX2_compare_49 rfl rfl ?_
    obtain ⟨r4, h4, h⟩ := bd_some h
    refine AR.callSN (pc := 50) (As := [.ref 42, .int x3]) (st := [.int (r3.1 37 6)]) dX2_compare_50 ⟨cd_X8_at, sm_X8_at, ini_X8⟩ mn_X2_43 (A8_at 42 6 rfl x3 r3 _ h4) pd_X8_at ⟨Nat.le_of_ble_eq_true rfl, Nat.le_of_ble_eq_true rfl⟩ ⟨rfl, rfl⟩ rfl (Nat.le_of_ble_eq_true rfl) ?_
    refine AR.icmp_ne (pc := 53) (tgt := 65) dX2_compare_53 (by decide) (fun c5 => ?_) (fun c5 => ?_)
    · replace h := ite_f c5 h
      exact AR.pick [0, 1, 2, 3, 4, 5] rfl (A2_compare_65 k2 k22 x3 x4 x5 hk2 hk22 (r4.2) r h)
    · replace h := ite_t c5 h
      refine AR.iload (pc := 56) (j := 4) dX2_compare_56 rfl ?_
      refine AR.iconst (pc := 58) (v := 1) dX2_compare_58 (by decide) ?_
      refine AR.iload (pc := 59) (j := 5) dX2_compare_59 rfl ?_
      refine AR.ishl (pc := 61) dX2_compare_61 ?_
      refine AR.ior (pc := 62) dX2_compare_62 ?_
      refine AR.istore (pc := 63) (L2 := [(4, .int (x4 ||| (1 <<< (x5 &&& 31)))), (0, .ref 40), (1, .ref 30), (2, .ref 37), (3, .int x3), (5, .int x5)]) dX2_compare_63 (by decide) rfl ?_
      exact AR.pick [1, 2, 3, 4, 0, 5] rfl (A2_compare_65 k2 k22 x3 (x4 ||| (1 <<< (x5 &&& 31))) x5 hk2 hk22 (r4.2) r h)
theorem A2_compare_22 {l : Launch} (k2 : Int32 × HS → Option (HS)) (x3 : Int32) (hk2 : ∀ (p : Int32 × HS) (r : HS), k2 p = some r → AR l RX2 cX2_compare 6 none (wsU yX2_compare cX2_compare 6 none) rm2_compare SC 2 [(0, .ref 40), (1, .ref 30), (2, .ref 37), (3, .int (p.1))] [] p.2 (none, r)) (p : Int32 × Int32 × HS) (r : HS) (h : f2_compare_22 k2 x3 p = some r) : AR l RX2 cX2_compare 6 none (wsU yX2_compare cX2_compare 6 none) rm2_compare SC 22 [(0, .ref 40), (1, .ref 30), (2, .ref 37), (3, .int x3), (4, .int (p.1)), (5, .int (p.2.1))] [] p.2.2 (none, r) := by
  unfold f2_compare_22 at h
  exact wloop_run (body := fun k22 p => f2_compare_22_b k2 k22 x3 p.1 p.2.1 p.2.2) (Q := fun p r => AR l RX2 cX2_compare 6 none (wsU yX2_compare cX2_compare 6 none) rm2_compare SC 22 [(0, .ref 40), (1, .ref 30), (2, .ref 37), (3, .int x3), (4, .int (p.1)), (5, .int (p.2.1))] [] p.2.2 (none, r)) (fun k22 hk22 p r h => A2_compare_22_b k2 k22 x3 p.1 p.2.1 hk2 hk22 p.2.2 r h) fuelN p r h
set_option maxHeartbeats 4000000 in
set_option maxRecDepth 100000 in
theorem A2_compare_2_b {l : Launch} (k2 : Int32 × HS → Option (HS)) (x3 : Int32) (hk2 : ∀ (p : Int32 × HS) (r : HS), k2 p = some r → AR l RX2 cX2_compare 6 none (wsU yX2_compare cX2_compare 6 none) rm2_compare SC 2 [(0, .ref 40), (1, .ref 30), (2, .ref 37), (3, .int (p.1))] [] p.2 (none, r)) (σ : HS) (r : HS) (h : f2_compare_2_b k2 x3 σ = some r) : AR l RX2 cX2_compare 6 none (wsU yX2_compare cX2_compare 6 none) rm2_compare SC 2 [(0, .ref 40), (1, .ref 30), (2, .ref 37), (3, .int x3)] [] σ (none, r) := by
  unfold f2_compare_2_b at h
  refine AR.iload_n (pc := 2) (j := 3) dX2_compare_2 rfl rfl ?_
  refine AR.aload_n (pc := 3) (j := 0) dX2_compare_3 rfl rfl ?_
  refine AR.getf (pc := 4) (ci := 2) (j := 3) (d := 0) (v := .int (σ.1 40 3)) (T := TX2) dX2_compare_4 rfl rfl rfl (by decide) (fun w hw => wsU_in (uw_X2 w hw)) (wsU_in fl_X2_21) rfl ?_
  refine AR.icmp_ge (pc := 7) (tgt := 87) dX2_compare_7 (by decide) (fun c1 => ?_) (fun c1 => ?_)
  · replace h := ite_t c1 h
    exact AR.vret (pc := 87) rfl dX2_compare_87 (hrV (Option.some.inj h))
  · replace h := ite_f c1 h
    refine AR.iload_n (pc := 10) (j := 3) dX2_compare_10 rfl rfl ?_
    refine AR.bipush (pc := 11) (v := 6) dX2_compare_11 (by decide) ?_
    refine AR.icmp_ge (pc := 13) (tgt := 87) dX2_compare_13 (by decide) (fun c2 => ?_) (fun c2 => ?_)
    · replace h := ite_t c2 h
      exact AR.vret (pc := 87) rfl dX2_compare_87 (hrV (Option.some.inj h))
    · replace h := ite_f c2 h
      refine AR.iconst (pc := 16) (v := 0) dX2_compare_16 (by decide) ?_
      refine AR.istore (pc := 17) (L2 := [(4, .int 0), (0, .ref 40), (1, .ref 30), (2, .ref 37), (3, .int x3)]) dX2_compare_17 (by decide) rfl ?_
      refine AR.iconst (pc := 19) (v := 0) dX2_compare_19 (by decide) ?_
      refine AR.istore (pc := 20) (L2 := [(5, .int 0), (4, .int 0), (0, .ref 40), (1, .ref 30), (2, .ref 37), (3, .int x3)]) dX2_compare_20 (by decide) rfl ?_
      exact AR.pick [2, 3, 4, 5, 1, 0] rfl (A2_compare_22 k2 x3 hk2 (0, 0, σ) r h)
theorem A2_compare_2 {l : Launch} (p : Int32 × HS) (r : HS) (h : f2_compare_2 p = some r) : AR l RX2 cX2_compare 6 none (wsU yX2_compare cX2_compare 6 none) rm2_compare SC 2 [(0, .ref 40), (1, .ref 30), (2, .ref 37), (3, .int (p.1))] [] p.2 (none, r) := by
  unfold f2_compare_2 at h
  exact wloop_run (body := fun k2 p => f2_compare_2_b k2 p.1 p.2) (Q := fun p r => AR l RX2 cX2_compare 6 none (wsU yX2_compare cX2_compare 6 none) rm2_compare SC 2 [(0, .ref 40), (1, .ref 30), (2, .ref 37), (3, .int (p.1))] [] p.2 (none, r)) (fun k2 hk2 p r h => A2_compare_2_b k2 p.1 hk2 p.2 r h) fuelN p r h
set_option maxHeartbeats 4000000 in
set_option maxRecDepth 100000 in
theorem A2_compare {l : Launch} (σ : HS) (r : HS) (h : f2_compare σ = some r) : MA l yX2_compare (wsU yX2_compare cX2_compare 6 none) rm2_compare SC [.ref 40, .ref 30, .ref 37] σ (none, r) := by
  refine MA.of (L := [(0, .ref 40), (1, .ref 30), (2, .ref 37)]) pn_X2_compare rfl (fun _ => Nat.le_of_ble_eq_true rfl) (fun _ => rfl) ?_
  unfold f2_compare at h
  refine AR.iconst (pc := 0) (v := 0) dX2_compare_0 (by decide) ?_
  refine AR.istore_n (pc := 1) (L2 := [(3, .int 0), (0, .ref 40), (1, .ref 30), (2, .ref 37)]) dX2_compare_1 rfl (by decide) rfl ?_
  exact AR.pick [1, 2, 3, 0] rfl (A2_compare_2 (0, σ) r h)
set_option maxHeartbeats 4000000 in
set_option maxRecDepth 100000 in
theorem A2_fits_36 {l : Launch} (k2 : Int32 × HS → Option (Int32 × HS)) (x1 : Int32) (x2 : Int32) (x3 : Int32) (x4 : Int32) (z0 : Int32) (hk2 : ∀ (p : Int32 × HS) (r : Int32 × HS), k2 p = some r → AR l RX2 cX2_fits 6 (some .boolean) (wsU yX2_fits cX2_fits 6 (some .boolean)) rm2_fits SC 2 [(0, .ref 40), (1, .int x1), (2, .int x2), (3, .int (p.1))] [] p.2 (some (.int r.1), r.2)) (σ : HS) (r : Int32 × HS) (h : f2_fits_36 k2 x1 x2 x3 x4 z0 σ = some r) : AR l RX2 cX2_fits 6 (some .boolean) (wsU yX2_fits cX2_fits 6 (some .boolean)) rm2_fits SC 36 [(0, .ref 40), (1, .int x1), (2, .int x2), (3, .int x3), (4, .int x4)] [.int z0] σ (some (.int r.1), r.2) := by
  unfold f2_fits_36 at h
  refine AR.istore (pc := 36) (L2 := [(5, .int z0), (0, .ref 40), (1, .int x1), (2, .int x2), (3, .int x3), (4, .int x4)]) dX2_fits_36 (by decide) rfl ?_
  refine AR.iload (pc := 38) (j := 5) dX2_fits_38 rfl ?_
  refine AR.iload (pc := 40) (j := 0) dX2_fits_40 rfl ?_
  refine AR.ishr (pc := 42) dX2_fits_42 ?_
  refine AR.iconst (pc := 43) (v := 1) dX2_fits_43 (by decide) ?_
  refine AR.iand (pc := 44) dX2_fits_44 ?_
  refine AR.if_ne (pc := 45) (tgt := 50) dX2_fits_45 (by decide) (fun c1 => ?_) (fun c1 => ?_)
  · replace h := ite_f c1 h
    refine AR.iinc (pc := 50) (j := 4) (v := (x3 + 1)) (L2 := [(3, .int (x3 + 1)), (5, .int z0), (0, .ref 40), (1, .int x1), (2, .int x2), (4, .int x4)]) dX2_fits_50 rfl rfl (by decide) rfl ?_
    refine AR.goto (pc := 53) (tgt := 2) dX2_fits_53 (by decide) ?_
    exact AR.pick [2, 3, 4, 0] rfl (hk2 ((x3 + 1), σ) r h)
  · replace h := ite_t c1 h
    refine AR.iconst (pc := 48) (v := 0) dX2_fits_48 (by decide) ?_
    exact AR.zret (pc := 49) rfl (Or.inl rfl) dX2_fits_49 (hrI (Option.some.inj h))
set_option maxHeartbeats 4000000 in
set_option maxRecDepth 100000 in
theorem A2_fits_2_b {l : Launch} (k2 : Int32 × HS → Option (Int32 × HS)) (x1 : Int32) (x2 : Int32) (x3 : Int32) (hk2 : ∀ (p : Int32 × HS) (r : Int32 × HS), k2 p = some r → AR l RX2 cX2_fits 6 (some .boolean) (wsU yX2_fits cX2_fits 6 (some .boolean)) rm2_fits SC 2 [(0, .ref 40), (1, .int x1), (2, .int x2), (3, .int (p.1))] [] p.2 (some (.int r.1), r.2)) (σ : HS) (r : Int32 × HS) (h : f2_fits_2_b k2 x1 x2 x3 σ = some r) : AR l RX2 cX2_fits 6 (some .boolean) (wsU yX2_fits cX2_fits 6 (some .boolean)) rm2_fits SC 2 [(0, .ref 40), (1, .int x1), (2, .int x2), (3, .int x3)] [] σ (some (.int r.1), r.2) := by
  unfold f2_fits_2_b at h
  refine AR.iload_n (pc := 2) (j := 3) dX2_fits_2 rfl rfl ?_
  refine AR.aload_n (pc := 3) (j := 0) dX2_fits_3 rfl rfl ?_
  refine AR.getf (pc := 4) (ci := 2) (j := 3) (d := 0) (v := .int (σ.1 40 3)) (T := TX2) dX2_fits_4 rfl rfl rfl (by decide) (fun w hw => wsU_in (uw_X2 w hw)) (wsU_in fl_X2_21) rfl ?_
  refine AR.icmp_ge (pc := 7) (tgt := 56) dX2_fits_7 (by decide) (fun c1 => ?_) (fun c1 => ?_)
  · replace h := ite_t c1 h
    refine AR.iconst (pc := 56) (v := 1) dX2_fits_56 (by decide) ?_
    exact AR.zret (pc := 57) rfl (Or.inr rfl) dX2_fits_57 (hrI (Option.some.inj h))
  · replace h := ite_f c1 h
    refine AR.iload_n (pc := 10) (j := 3) dX2_fits_10 rfl rfl ?_
    refine AR.bipush (pc := 11) (v := 6) dX2_fits_11 (by decide) ?_
    refine AR.icmp_ge (pc := 13) (tgt := 56) dX2_fits_13 (by decide) (fun c2 => ?_) (fun c2 => ?_)
    · replace h := ite_t c2 h
      refine AR.iconst (pc := 56) (v := 1) dX2_fits_56 (by decide) ?_
      exact AR.zret (pc := 57) rfl (Or.inr rfl) dX2_fits_57 (hrI (Option.some.inj h))
    · replace h := ite_f c2 h
      refine AR.aload_n (pc := 16) (j := 0) dX2_fits_16 rfl rfl ?_
      refine AR.getf (pc := 17) (ci := 2) (j := 2) (d := 43 + 2) (v := .ref 43) (T := TX2) dX2_fits_17 rfl rfl rfl (by decide) (fun w hw => wsU_in (uw_X2 w hw)) (wsU_in fl_X2_18) rfl ?_
      refine AR.iload_n (pc := 20) (j := 3) dX2_fits_20 rfl rfl ?_
      obtain ⟨r3, h3, h⟩ := bd_some h
      refine AR.callSN (pc := 21) (As := [.ref 43, .int x3]) (st := []) dX2_fits_21 ⟨cd_X8_at, sm_X8_at, ini_X8⟩ mn_X2_43 (A8_at 43 6 rfl x3 σ _ h3) pd_X8_at ⟨Nat.le_of_ble_eq_true rfl, Nat.le_of_ble_eq_true rfl⟩ ⟨rfl, rfl⟩ rfl (Nat.le_of_ble_eq_true rfl) ?_
      refine AR.istore (pc := 24) (L2 := [(4, .int (r3.1)), (0, .ref 40), (1, .int x1), (2, .int x2), (3, .int x3)]) dX2_fits_24 (by decide) rfl ?_
      refine AR.iload_n (pc := 26) (j := 4) dX2_fits_26 rfl rfl ?_
      refine AR.iload_n (pc := 27) (j := 2) dX2_fits_27 rfl rfl ?_
      refine AR.icmp_ge (pc := 28) (tgt := 35) dX2_fits_28 (by decide) (fun c4 => ?_) (fun c4 => ?_)
      · replace h := ite_t c4 h
        refine AR.iload_n (pc := 35) (j := 3) dX2_fits_35 rfl rfl ?_
        exact AR.pick [1, 2, 3, 4, 0] rfl (A2_fits_36 k2 x1 x2 x3 (r3.1) x2 hk2 (r3.2) r h)
      · replace h := ite_f c4 h
        refine AR.iconst (pc := 31) (v := 0) dX2_fits_31 (by decide) ?_
        refine AR.goto (pc := 32) (tgt := 36) dX2_fits_32 (by decide) ?_
        exact AR.pick [1, 2, 3, 4, 0] rfl (A2_fits_36 k2 x1 x2 x3 (r3.1) 0 hk2 (r3.2) r h)
theorem A2_fits_2 {l : Launch} (x1 : Int32) (x2 : Int32) (p : Int32 × HS) (r : Int32 × HS) (h : f2_fits_2 x1 x2 p = some r) : AR l RX2 cX2_fits 6 (some .boolean) (wsU yX2_fits cX2_fits 6 (some .boolean)) rm2_fits SC 2 [(0, .ref 40), (1, .int x1), (2, .int x2), (3, .int (p.1))] [] p.2 (some (.int r.1), r.2) := by
  unfold f2_fits_2 at h
  exact wloop_run (body := fun k2 p => f2_fits_2_b k2 x1 x2 p.1 p.2) (Q := fun p r => AR l RX2 cX2_fits 6 (some .boolean) (wsU yX2_fits cX2_fits 6 (some .boolean)) rm2_fits SC 2 [(0, .ref 40), (1, .int x1), (2, .int x2), (3, .int (p.1))] [] p.2 (some (.int r.1), r.2)) (fun k2 hk2 p r h => A2_fits_2_b k2 x1 x2 p.1 hk2 p.2 r h) fuelN p r h
set_option maxHeartbeats 4000000 in
set_option maxRecDepth 100000 in
theorem A2_fits {l : Launch} (x1 : Int32) (x2 : Int32) (σ : HS) (r : Int32 × HS) (h : f2_fits x1 x2 σ = some r) : MA l yX2_fits (wsU yX2_fits cX2_fits 6 (some .boolean)) rm2_fits SC [.ref 40, .int x1, .int x2] σ (some (.int r.1), r.2) := by
  refine MA.of (L := [(0, .ref 40), (1, .int x1), (2, .int x2)]) pn_X2_fits rfl (fun _ => Nat.le_of_ble_eq_true rfl) (fun _ => rfl) ?_
  unfold f2_fits at h
  refine AR.iconst (pc := 0) (v := 0) dX2_fits_0 (by decide) ?_
  refine AR.istore_n (pc := 1) (L2 := [(3, .int 0), (0, .ref 40), (1, .int x1), (2, .int x2)]) dX2_fits_1 rfl (by decide) rfl ?_
  exact AR.pick [1, 2, 3, 0] rfl (A2_fits_2 x1 x2 (0, σ) r h)
set_option maxHeartbeats 4000000 in
set_option maxRecDepth 100000 in
theorem A3_forget {l : Launch} (σ : HS) (r : HS) (h : f3_forget σ = some r) : MA l yX3_forget (wsU yX3_forget cX3_forget 1 none) rm3_forget SC [.ref 44] σ (none, r) := by
  refine MA.of (L := [(0, .ref 44)]) pn_X3_forget rfl (fun _ => Nat.le_of_ble_eq_true rfl) (fun _ => rfl) ?_
  unfold f3_forget at h
  refine AR.aload_n (pc := 0) (j := 0) dX3_forget_0 rfl rfl ?_
  refine AR.iconst (pc := 1) (v := 0) dX3_forget_1 (by decide) ?_
  refine AR.putI (pc := 2) (ci := 3) (j := 6) (T := TX3) (ty0 := tyX3) (ty := .boolean) dX3_forget_2 rfl rfl rfl (by decide) (fun w hw => wsU_in (uw_X3 w hw)) tyX3_ok nmX3 (wsU_in fl_X3_18) rfl (by decide +kernel) rfl rfl ?_
  exact AR.vret (pc := 5) rfl dX3_forget_5 (hrV (Option.some.inj h))
set_option maxHeartbeats 4000000 in
set_option maxRecDepth 100000 in
theorem A5_beginMaking {l : Launch} (g : Nat) (hg : Grp g) (σ : HS) (r : HS) (h : f5_beginMaking g σ = some r) : MA l yX5_beginMaking (wsU yX5_beginMaking cX5_beginMaking 1 none) rm5_beginMaking SC [.ref (g + 2)] σ (none, r) := by
  refine MA.of (L := [(0, .ref (g + 2))]) pn_X5_beginMaking rfl (fun _ => Nat.le_of_ble_eq_true rfl) (fun _ => rfl) ?_
  unfold f5_beginMaking at h
  refine AR.aload_n (pc := 0) (j := 0) dX5_beginMaking_0 rfl rfl ?_
  refine AR.dup (pc := 1) dX5_beginMaking_1 rfl ?_
  refine AR.getf (pc := 2) (ci := 5) (j := 7) (d := 0) (v := .int (σ.1 (g + 2) 7)) (T := TX5) dX5_beginMaking_2 (gr2 hg) rfl rfl (by decide) (fun w hw => wsU_in (uw_X5 w hw)) (wsU_in fl_X5_29) rfl ?_
  refine AR.iconst (pc := 5) (v := 1) dX5_beginMaking_5 (by decide) ?_
  refine AR.iadd (pc := 6) dX5_beginMaking_6 ?_
  refine AR.putI (pc := 7) (ci := 5) (j := 7) (T := TX5) (ty0 := tyX5) (ty := .int) dX5_beginMaking_7 (gr2 hg) rfl rfl (by decide) (fun w hw => wsU_in (uw_X5 w hw)) tyX5_ok nmX5 (wsU_in fl_X5_29) rfl (by decide +kernel) rfl rfl ?_
  refine AR.aload_n (pc := 10) (j := 0) dX5_beginMaking_10 rfl rfl ?_
  refine AR.iconst (pc := 11) (v := 0) dX5_beginMaking_11 (by decide) ?_
  refine AR.putI (pc := 12) (ci := 5) (j := 5) (T := TX5) (ty0 := tyX5) (ty := .int) dX5_beginMaking_12 (gr2 hg) rfl rfl (by decide) (fun w hw => wsU_in (uw_X5 w hw)) tyX5_ok nmX5 (wsU_in fl_X5_22) rfl (by decide +kernel) rfl rfl ?_
  refine AR.aload_n (pc := 15) (j := 0) dX5_beginMaking_15 rfl rfl ?_
  refine AR.aload_n (pc := 16) (j := 0) dX5_beginMaking_16 rfl rfl ?_
  refine AR.getf (pc := 17) (ci := 5) (j := 0) (d := g + 2) (v := .ref g) (T := TX5) dX5_beginMaking_17 (gr2 hg) rfl rfl (by decide) (fun w hw => wsU_in (uw_X5 w hw)) (wsU_in fl_X5_35) rfl ?_
  obtain ⟨r1, h1, h⟩ := bd_some h
  refine AR.callVN (pc := 20) (As := []) (st := [.ref (g + 2)]) (ci := 0) dX5_beginMaking_20 ⟨cd_X0_turns, im_X0_turns, se_X0_turns, ini_X0⟩ mn_X5_65 (A0_turns g hg (uI (uI σ (g + 2) 7 ((σ.1 (g + 2) 7) + 1)) (g + 2) 5 0) _ h1) ⟨rfl, pd_X0_turns⟩ ⟨Nat.le_of_ble_eq_true rfl, Nat.le_of_ble_eq_true rfl⟩ ⟨rfl, rfl⟩ (gr0 hg) rfl rfl (Nat.le_of_ble_eq_true rfl) ?_
  refine AR.putI (pc := 23) (ci := 5) (j := 8) (T := TX5) (ty0 := tyX5) (ty := .int) dX5_beginMaking_23 (gr2 hg) rfl rfl (by decide) (fun w hw => wsU_in (uw_X5 w hw)) tyX5_ok nmX5 (wsU_in fl_X5_32) rfl (by decide +kernel) rfl rfl ?_
  exact AR.vret (pc := 26) rfl dX5_beginMaking_26 (hrV (Option.some.inj h))
set_option maxHeartbeats 4000000 in
set_option maxRecDepth 100000 in
theorem A5_openState {l : Launch} (g : Nat) (hg : Grp g) (x1 : Int32) (x2 : Int32) (σ : HS) (r : HS) (h : f5_openState g x1 x2 σ = some r) : MA l yX5_openState (wsU yX5_openState cX5_openState 4 none) rm5_openState SC [.ref (g + 2), .int x1, .int x2] σ (none, r) := by
  refine MA.of (L := [(0, .ref (g + 2)), (1, .int x1), (2, .int x2)]) pn_X5_openState rfl (fun _ => Nat.le_of_ble_eq_true rfl) (fun _ => rfl) ?_
  unfold f5_openState at h
  refine AR.iload_n (pc := 0) (j := 1) dX5_openState_0 rfl rfl ?_
  refine AR.iload_n (pc := 1) (j := 2) dX5_openState_1 rfl rfl ?_
  obtain ⟨r1, h1, h⟩ := bd_some h
  refine AR.callS (pc := 2) (As := [.int x1, .int x2]) (st := []) dX5_openState_2 ⟨cd_X5_stateOf, sm_X5_stateOf, ini_X5⟩ ml_X5_92 (A5_stateOf x1 x2 σ _ h1) ⟨rfl, pd_X5_stateOf⟩ ⟨Nat.le_of_ble_eq_true rfl, Nat.le_of_ble_eq_true rfl⟩ ⟨rfl, rfl⟩ rfl (Nat.le_of_ble_eq_true rfl) ?_
  refine AR.istore_n (pc := 5) (L2 := [(3, .int (r1.1)), (0, .ref (g + 2)), (1, .int x1), (2, .int x2)]) dX5_openState_5 rfl (by decide) rfl ?_
  refine AR.iload_n (pc := 6) (j := 2) dX5_openState_6 rfl rfl ?_
  refine AR.aload_n (pc := 7) (j := 1) dX5_openState_7 rfl rfl ?_
  refine AR.getf (pc := 8) (ci := 5) (j := 8) (d := 0) (v := .int ((r1.2).1 (g + 2) 8)) (T := TX5) dX5_openState_8 (gr2 hg) rfl rfl (by decide) (fun w hw => wsU_in (uw_X5 w hw)) (wsU_in fl_X5_32) rfl ?_
  refine AR.icmp_ge (pc := 11) (tgt := 63) dX5_openState_11 (by decide) (fun c2 => ?_) (fun c2 => ?_)
  · replace h := ite_t c2 h
    exact AR.vret (pc := 63) rfl dX5_openState_63 (hrV (Option.some.inj h))
  · replace h := ite_f c2 h
    refine AR.aload_n (pc := 14) (j := 1) dX5_openState_14 rfl rfl ?_
    refine AR.getf (pc := 15) (ci := 5) (j := 6) (d := (g + 6) + 2) (v := .ref (g + 6)) (T := TX5) dX5_openState_15 (gr2 hg) rfl rfl (by decide) (fun w hw => wsU_in (uw_X5 w hw)) (wsU_in fl_X5_26) rfl ?_
    refine AR.iload_n (pc := 18) (j := 0) dX5_openState_18 rfl rfl ?_
    obtain ⟨r3, h3, h⟩ := bd_some h
    refine AR.callSN (pc := 19) (As := [.ref (g + 6), .int (r1.1)]) (st := []) dX5_openState_19 ⟨cd_X8_at, sm_X8_at, ini_X8⟩ mn_X5_71 (A8_at (g + 6) 600 (gr6 hg) (r1.1) (r1.2) _ h3) pd_X8_at ⟨Nat.le_of_ble_eq_true rfl, Nat.le_of_ble_eq_true rfl⟩ ⟨rfl, rfl⟩ rfl (Nat.le_of_ble_eq_true rfl) ?_
    refine AR.aload_n (pc := 22) (j := 1) dX5_openState_22 rfl rfl ?_
    refine AR.getf (pc := 23) (ci := 5) (j := 7) (d := 0) (v := .int ((r3.2).1 (g + 2) 7)) (T := TX5) dX5_openState_23 (gr2 hg) rfl rfl (by decide) (fun w hw => wsU_in (uw_X5 w hw)) (wsU_in fl_X5_29) rfl ?_
    refine AR.icmp_eq (pc := 26) (tgt := 63) dX5_openState_26 (by decide) (fun c4 => ?_) (fun c4 => ?_)
    · replace h := ite_t c4 h
      exact AR.vret (pc := 63) rfl dX5_openState_63 (hrV (Option.some.inj h))
    · replace h := ite_f c4 h
      refine AR.aload_n (pc := 29) (j := 1) dX5_openState_29 rfl rfl ?_
      refine AR.getf (pc := 30) (ci := 5) (j := 6) (d := (g + 6) + 2) (v := .ref (g + 6)) (T := TX5) dX5_openState_30 (gr2 hg) rfl rfl (by decide) (fun w hw => wsU_in (uw_X5 w hw)) (wsU_in fl_X5_26) rfl ?_
      refine AR.iload_n (pc := 33) (j := 0) dX5_openState_33 rfl rfl ?_
      refine AR.aload_n (pc := 34) (j := 1) dX5_openState_34 rfl rfl ?_
      refine AR.getf (pc := 35) (ci := 5) (j := 7) (d := 0) (v := .int ((r3.2).1 (g + 2) 7)) (T := TX5) dX5_openState_35 (gr2 hg) rfl rfl (by decide) (fun w hw => wsU_in (uw_X5 w hw)) (wsU_in fl_X5_29) rfl ?_
      obtain ⟨r5, h5, h⟩ := bd_some h
      refine AR.callSN (pc := 38) (As := [.ref (g + 6), .int (r1.1), .int ((r3.2).1 (g + 2) 7)]) (st := []) dX5_openState_38 ⟨cd_X8_set, sm_X8_set, ini_X8⟩ mn_X5_95 (A8_set (g + 6) 600 (gr6 hg) (r1.1) ((r3.2).1 (g + 2) 7) (r3.2) _ h5) pd_X8_set ⟨Nat.le_of_ble_eq_true rfl, Nat.le_of_ble_eq_true rfl⟩ ⟨rfl, rfl⟩ rfl (Nat.le_of_ble_eq_true rfl) ?_
      refine AR.aload_n (pc := 41) (j := 1) dX5_openState_41 rfl rfl ?_
      refine AR.getf (pc := 42) (ci := 5) (j := 4) (d := (g + 5) + 2) (v := .ref (g + 5)) (T := TX5) dX5_openState_42 (gr2 hg) rfl rfl (by decide) (fun w hw => wsU_in (uw_X5 w hw)) (wsU_in fl_X5_19) rfl ?_
      refine AR.aload_n (pc := 45) (j := 1) dX5_openState_45 rfl rfl ?_
      refine AR.getf (pc := 46) (ci := 5) (j := 5) (d := 0) (v := .int (r5.1 (g + 2) 5)) (T := TX5) dX5_openState_46 (gr2 hg) rfl rfl (by decide) (fun w hw => wsU_in (uw_X5 w hw)) (wsU_in fl_X5_22) rfl ?_
      refine AR.iload_n (pc := 49) (j := 0) dX5_openState_49 rfl rfl ?_
      obtain ⟨r6, h6, h⟩ := bd_some h
      refine AR.callSN (pc := 50) (As := [.ref (g + 5), .int (r5.1 (g + 2) 5), .int (r1.1)]) (st := []) dX5_openState_50 ⟨cd_X8_set, sm_X8_set, ini_X8⟩ mn_X5_95 (A8_set (g + 5) 600 (gr5 hg) (r5.1 (g + 2) 5) (r1.1) r5 _ h6) pd_X8_set ⟨Nat.le_of_ble_eq_true rfl, Nat.le_of_ble_eq_true rfl⟩ ⟨rfl, rfl⟩ rfl (Nat.le_of_ble_eq_true rfl) ?_
      refine AR.aload_n (pc := 53) (j := 1) dX5_openState_53 rfl rfl ?_
      refine AR.dup (pc := 54) dX5_openState_54 rfl ?_
      refine AR.getf (pc := 55) (ci := 5) (j := 5) (d := 0) (v := .int (r6.1 (g + 2) 5)) (T := TX5) dX5_openState_55 (gr2 hg) rfl rfl (by decide) (fun w hw => wsU_in (uw_X5 w hw)) (wsU_in fl_X5_22) rfl ?_
      refine AR.iconst (pc := 58) (v := 1) dX5_openState_58 (by decide) ?_
      refine AR.iadd (pc := 59) dX5_openState_59 ?_
      refine AR.putI (pc := 60) (ci := 5) (j := 5) (T := TX5) (ty0 := tyX5) (ty := .int) dX5_openState_60 (gr2 hg) rfl rfl (by decide) (fun w hw => wsU_in (uw_X5 w hw)) tyX5_ok nmX5 (wsU_in fl_X5_22) rfl (by decide +kernel) rfl rfl ?_
      exact AR.vret (pc := 63) rfl dX5_openState_63 (hrV (Option.some.inj h))
set_option maxHeartbeats 4000000 in
set_option maxRecDepth 100000 in
theorem A4_wordsOf {l : Launch} (b : Nat) (hb : Ppl b) (x1 : Int32) (σ : HS) (r : Int32 × HS) (h : f4_wordsOf b x1 σ = some r) : MA l yX4_wordsOf (wsU yX4_wordsOf cX4_wordsOf 2 (some .int)) rm4_wordsOf SC [.ref b, .int x1] σ (some (.int r.1), r.2) := by
  refine MA.of (L := [(0, .ref b), (1, .int x1)]) pn_X4_wordsOf rfl (fun _ => Nat.le_of_ble_eq_true rfl) (fun _ => rfl) ?_
  unfold f4_wordsOf at h
  refine AR.aload_n (pc := 0) (j := 0) dX4_wordsOf_0 rfl rfl ?_
  refine AR.getf (pc := 1) (ci := 4) (j := 4) (d := (b + 2) + 2) (v := .ref (b + 2)) (T := TX4) dX4_wordsOf_1 (pp0 hb) rfl rfl (by decide) (fun w hw => wsU_in (uw_X4 w hw)) (wsU_in fl_X4_25) rfl ?_
  refine AR.iload_n (pc := 4) (j := 1) dX4_wordsOf_4 rfl rfl ?_
  obtain ⟨r1, h1, h⟩ := bd_some h
  refine AR.callSN (pc := 5) (As := [.ref (b + 2), .int x1]) (st := []) dX4_wordsOf_5 ⟨cd_X8_at, sm_X8_at, ini_X8⟩ mn_X4_85 (A8_at (b + 2) 5 (pp2 hb) x1 σ _ h1) pd_X8_at ⟨Nat.le_of_ble_eq_true rfl, Nat.le_of_ble_eq_true rfl⟩ ⟨rfl, rfl⟩ rfl (Nat.le_of_ble_eq_true rfl) ?_
  exact AR.iret (pc := 8) rfl dX4_wordsOf_8 (hrI (Option.some.inj h))
set_option maxHeartbeats 4000000 in
set_option maxRecDepth 100000 in
theorem A5_openBehind_82 {l : Launch} (k27 : Int32 × HS → Option (HS)) (x1 : Int32) (x2 : Int32) (x3 : Int32) (x4 : Int32) (hk27 : ∀ (p : Int32 × HS) (r : HS), k27 p = some r → AR l RX5 cX5_openBehind 6 none (wsU yX5_openBehind cX5_openBehind 6 none) rm5_openBehind SC 27 [(0, .ref 32), (1, .int x1), (2, .int x2), (3, .int x3), (4, .int (p.1))] [] p.2 (none, r)) (σ : HS) (r : HS) (h : f5_openBehind_82 k27 x1 x2 x3 x4 σ = some r) : AR l RX5 cX5_openBehind 6 none (wsU yX5_openBehind cX5_openBehind 6 none) rm5_openBehind SC 82 [(0, .ref 32), (1, .int x1), (2, .int x2), (3, .int x3), (4, .int x4)] [] σ (none, r) := by
  unfold f5_openBehind_82 at h
  refine AR.iinc (pc := 82) (j := 4) (v := (x4 + 1)) (L2 := [(4, .int (x4 + 1)), (0, .ref 32), (1, .int x1), (2, .int x2), (3, .int x3)]) dX5_openBehind_82 rfl rfl (by decide) rfl ?_
  refine AR.goto (pc := 85) (tgt := 27) dX5_openBehind_85 (by decide) ?_
  exact AR.pick [1, 2, 3, 4, 0] rfl (hk27 ((x4 + 1), σ) r h)
set_option maxHeartbeats 4000000 in
set_option maxRecDepth 100000 in
theorem A5_openBehind_27_b {l : Launch} (k27 : Int32 × HS → Option (HS)) (x1 : Int32) (x2 : Int32) (x3 : Int32) (x4 : Int32) (hk27 : ∀ (p : Int32 × HS) (r : HS), k27 p = some r → AR l RX5 cX5_openBehind 6 none (wsU yX5_openBehind cX5_openBehind 6 none) rm5_openBehind SC 27 [(0, .ref 32), (1, .int x1), (2, .int x2), (3, .int x3), (4, .int (p.1))] [] p.2 (none, r)) (σ : HS) (r : HS) (h : f5_openBehind_27_b k27 x1 x2 x3 x4 σ = some r) : AR l RX5 cX5_openBehind 6 none (wsU yX5_openBehind cX5_openBehind 6 none) rm5_openBehind SC 27 [(0, .ref 32), (1, .int x1), (2, .int x2), (3, .int x3), (4, .int x4)] [] σ (none, r) := by
  unfold f5_openBehind_27_b at h
  refine AR.iload (pc := 27) (j := 4) dX5_openBehind_27 rfl ?_
  refine AR.aload_n (pc := 29) (j := 0) dX5_openBehind_29 rfl rfl ?_
  refine AR.getf (pc := 30) (ci := 5) (j := 1) (d := 5 + 2) (v := .ref 5) (T := TX5) dX5_openBehind_30 rfl rfl rfl (by decide) (fun w hw => wsU_in (uw_X5 w hw)) (wsU_in fl_X5_45) rfl ?_
  refine AR.iload_n (pc := 33) (j := 3) dX5_openBehind_33 rfl rfl ?_
  obtain ⟨r1, h1, h⟩ := bd_some h
  refine AR.callVN (pc := 34) (As := [.int x3]) (st := [.int x4]) (ci := 4) dX5_openBehind_34 ⟨cd_X4_wordsOf, im_X4_wordsOf, se_X4_wordsOf, ini_X4⟩ mn_X5_85 (A4_wordsOf 5 ppl5 x3 σ _ h1) ⟨rfl, pd_X4_wordsOf⟩ ⟨Nat.le_of_ble_eq_true rfl, Nat.le_of_ble_eq_true rfl⟩ ⟨rfl, rfl⟩ rfl rfl rfl (Nat.le_of_ble_eq_true rfl) ?_
  refine AR.icmp_ge (pc := 37) (tgt := 88) dX5_openBehind_37 (by decide) (fun c2 => ?_) (fun c2 => ?_)
  · replace h := ite_t c2 h
    exact AR.vret (pc := 88) rfl dX5_openBehind_88 (hrV (Option.some.inj h))
  · replace h := ite_f c2 h
    refine AR.iload (pc := 40) (j := 4) dX5_openBehind_40 rfl ?_
    refine AR.iconst (pc := 42) (v := 3) dX5_openBehind_42 (by decide) ?_
    refine AR.icmp_ge (pc := 43) (tgt := 88) dX5_openBehind_43 (by decide) (fun c3 => ?_) (fun c3 => ?_)
    · replace h := ite_t c3 h
      exact AR.vret (pc := 88) rfl dX5_openBehind_88 (hrV (Option.some.inj h))
    · replace h := ite_f c3 h
      refine AR.aload_n (pc := 46) (j := 0) dX5_openBehind_46 rfl rfl ?_
      refine AR.getf (pc := 47) (ci := 5) (j := 1) (d := 5 + 2) (v := .ref 5) (T := TX5) dX5_openBehind_47 rfl rfl rfl (by decide) (fun w hw => wsU_in (uw_X5 w hw)) (wsU_in fl_X5_45) rfl ?_
      refine AR.iload_n (pc := 50) (j := 3) dX5_openBehind_50 rfl rfl ?_
      refine AR.iload (pc := 51) (j := 4) dX5_openBehind_51 rfl ?_
      obtain ⟨r4, h4, h⟩ := bd_some h
      refine AR.callVN (pc := 53) (As := [.int x3, .int x4]) (st := []) (ci := 4) dX5_openBehind_53 ⟨cd_X4_lengthOf, im_X4_lengthOf, se_X4_lengthOf, ini_X4⟩ mn_X5_88 (A4_lengthOf 5 ppl5 x3 x4 (r1.2) _ h4) ⟨rfl, pd_X4_lengthOf⟩ ⟨Nat.le_of_ble_eq_true rfl, Nat.le_of_ble_eq_true rfl⟩ ⟨rfl, rfl⟩ rfl rfl rfl (Nat.le_of_ble_eq_true rfl) ?_
      refine AR.istore (pc := 56) (L2 := [(5, .int (r4.1)), (0, .ref 32), (1, .int x1), (2, .int x2), (3, .int x3), (4, .int x4)]) dX5_openBehind_56 (by decide) rfl ?_
      refine AR.iload (pc := 58) (j := 0) dX5_openBehind_58 rfl ?_
      refine AR.iload_n (pc := 60) (j := 3) dX5_openBehind_60 rfl rfl ?_
      refine AR.icmp_gt (pc := 61) (tgt := 82) dX5_openBehind_61 (by decide) (fun c5 => ?_) (fun c5 => ?_)
      · replace h := ite_t c5 h
        exact AR.pick [1, 2, 3, 4, 5] rfl (A5_openBehind_82 k27 x1 x2 x3 x4 hk27 (r4.2) r h)
      · replace h := ite_f c5 h
        refine AR.aload_n (pc := 64) (j := 1) dX5_openBehind_64 rfl rfl ?_
        refine AR.iload_n (pc := 65) (j := 2) dX5_openBehind_65 rfl rfl ?_
        refine AR.iconst (pc := 66) (v := 1) dX5_openBehind_66 (by decide) ?_
        refine AR.iadd (pc := 67) dX5_openBehind_67 ?_
        refine AR.aload_n (pc := 68) (j := 1) dX5_openBehind_68 rfl rfl ?_
        refine AR.getf (pc := 69) (ci := 5) (j := 0) (d := 30 + 2) (v := .ref 30) (T := TX5) dX5_openBehind_69 rfl rfl rfl (by decide) (fun w hw => wsU_in (uw_X5 w hw)) (wsU_in fl_X5_35) rfl ?_
        refine AR.iload_n (pc := 72) (j := 3) dX5_openBehind_72 rfl rfl ?_
        refine AR.iload (pc := 73) (j := 0) dX5_openBehind_73 rfl ?_
        refine AR.isub (pc := 75) dX5_openBehind_75 ?_
        obtain ⟨r6, h6, h⟩ := bd_some h
        refine AR.callVN (pc := 76) (As := [.int (x2 - (r4.1))]) (st := [.int (x1 + 1), .ref 32]) (ci := 0) dX5_openBehind_76 ⟨cd_X0_waterBehind, im_X0_waterBehind, se_X0_waterBehind, ini_X0⟩ mn_X5_82 (A0_waterBehind 30 grp30 (x2 - (r4.1)) (r4.2) _ h6) ⟨rfl, pd_X0_waterBehind⟩ ⟨Nat.le_of_ble_eq_true rfl, Nat.le_of_ble_eq_true rfl⟩ ⟨rfl, rfl⟩ rfl rfl rfl (Nat.le_of_ble_eq_true rfl) ?_
        obtain ⟨r7, h7, h⟩ := bd_some h
        refine AR.callV (pc := 79) (As := [.int (x1 + 1), .int (r6.1)]) (st := []) (ci := 5) dX5_openBehind_79 ⟨cd_X5_openState, im_X5_openState, se_X5_openState, ini_X5⟩ ml_X5_54 (A5_openState 30 grp30 (x1 + 1) (r6.1) (r6.2) _ h7) ⟨rfl, pd_X5_openState⟩ ⟨Nat.le_of_ble_eq_true rfl, Nat.le_of_ble_eq_true rfl⟩ ⟨rfl, rfl⟩ rfl rfl rfl (Nat.le_of_ble_eq_true rfl) ?_
        exact AR.pick [1, 2, 3, 4, 5] rfl (A5_openBehind_82 k27 x1 x2 x3 x4 hk27 r7 r h)
theorem A5_openBehind_27 {l : Launch} (x1 : Int32) (x2 : Int32) (x3 : Int32) (p : Int32 × HS) (r : HS) (h : f5_openBehind_27 x1 x2 x3 p = some r) : AR l RX5 cX5_openBehind 6 none (wsU yX5_openBehind cX5_openBehind 6 none) rm5_openBehind SC 27 [(0, .ref 32), (1, .int x1), (2, .int x2), (3, .int x3), (4, .int (p.1))] [] p.2 (none, r) := by
  unfold f5_openBehind_27 at h
  exact wloop_run (body := fun k27 p => f5_openBehind_27_b k27 x1 x2 x3 p.1 p.2) (Q := fun p r => AR l RX5 cX5_openBehind 6 none (wsU yX5_openBehind cX5_openBehind 6 none) rm5_openBehind SC 27 [(0, .ref 32), (1, .int x1), (2, .int x2), (3, .int x3), (4, .int (p.1))] [] p.2 (none, r)) (fun k27 hk27 p r h => A5_openBehind_27_b k27 x1 x2 x3 p.1 hk27 p.2 r h) fuelN p r h
set_option maxHeartbeats 4000000 in
set_option maxRecDepth 100000 in
theorem A5_openBehind {l : Launch} (x1 : Int32) (x2 : Int32) (σ : HS) (r : HS) (h : f5_openBehind x1 x2 σ = some r) : MA l yX5_openBehind (wsU yX5_openBehind cX5_openBehind 6 none) rm5_openBehind SC [.ref 32, .int x1, .int x2] σ (none, r) := by
  refine MA.of (L := [(0, .ref 32), (1, .int x1), (2, .int x2)]) pn_X5_openBehind rfl (fun _ => Nat.le_of_ble_eq_true rfl) (fun _ => rfl) ?_
  unfold f5_openBehind at h
  refine AR.aload_n (pc := 0) (j := 0) dX5_openBehind_0 rfl rfl ?_
  refine AR.getf (pc := 1) (ci := 5) (j := 0) (d := 30 + 2) (v := .ref 30) (T := TX5) dX5_openBehind_1 rfl rfl rfl (by decide) (fun w hw => wsU_in (uw_X5 w hw)) (wsU_in fl_X5_35) rfl ?_
  refine AR.iload_n (pc := 4) (j := 1) dX5_openBehind_4 rfl rfl ?_
  obtain ⟨r1, h1, h⟩ := bd_some h
  refine AR.callVN (pc := 5) (As := [.int x1]) (st := []) (ci := 0) dX5_openBehind_5 ⟨cd_X0_whoIn, im_X0_whoIn, se_X0_whoIn, ini_X0⟩ mn_X5_78 (A0_whoIn 30 grp30 x1 σ _ h1) ⟨rfl, pd_X0_whoIn⟩ ⟨Nat.le_of_ble_eq_true rfl, Nat.le_of_ble_eq_true rfl⟩ ⟨rfl, rfl⟩ rfl rfl rfl (Nat.le_of_ble_eq_true rfl) ?_
  refine AR.istore_n (pc := 8) (L2 := [(3, .int (r1.1)), (0, .ref 32), (1, .int x1), (2, .int x2)]) dX5_openBehind_8 rfl (by decide) rfl ?_
  refine AR.aload_n (pc := 9) (j := 1) dX5_openBehind_9 rfl rfl ?_
  refine AR.iload_n (pc := 10) (j := 2) dX5_openBehind_10 rfl rfl ?_
  refine AR.iconst (pc := 11) (v := 1) dX5_openBehind_11 (by decide) ?_
  refine AR.iadd (pc := 12) dX5_openBehind_12 ?_
  refine AR.aload_n (pc := 13) (j := 1) dX5_openBehind_13 rfl rfl ?_
  refine AR.getf (pc := 14) (ci := 5) (j := 0) (d := 30 + 2) (v := .ref 30) (T := TX5) dX5_openBehind_14 rfl rfl rfl (by decide) (fun w hw => wsU_in (uw_X5 w hw)) (wsU_in fl_X5_35) rfl ?_
  refine AR.iload_n (pc := 17) (j := 3) dX5_openBehind_17 rfl rfl ?_
  obtain ⟨r2, h2, h⟩ := bd_some h
  refine AR.callVN (pc := 18) (As := [.int x2]) (st := [.int (x1 + 1), .ref 32]) (ci := 0) dX5_openBehind_18 ⟨cd_X0_waterBehind, im_X0_waterBehind, se_X0_waterBehind, ini_X0⟩ mn_X5_82 (A0_waterBehind 30 grp30 x2 (r1.2) _ h2) ⟨rfl, pd_X0_waterBehind⟩ ⟨Nat.le_of_ble_eq_true rfl, Nat.le_of_ble_eq_true rfl⟩ ⟨rfl, rfl⟩ rfl rfl rfl (Nat.le_of_ble_eq_true rfl) ?_
  obtain ⟨r3, h3, h⟩ := bd_some h
  refine AR.callV (pc := 21) (As := [.int (x1 + 1), .int (r2.1)]) (st := []) (ci := 5) dX5_openBehind_21 ⟨cd_X5_openState, im_X5_openState, se_X5_openState, ini_X5⟩ ml_X5_54 (A5_openState 30 grp30 (x1 + 1) (r2.1) (r2.2) _ h3) ⟨rfl, pd_X5_openState⟩ ⟨Nat.le_of_ble_eq_true rfl, Nat.le_of_ble_eq_true rfl⟩ ⟨rfl, rfl⟩ rfl rfl rfl (Nat.le_of_ble_eq_true rfl) ?_
  refine AR.iconst (pc := 24) (v := 0) dX5_openBehind_24 (by decide) ?_
  refine AR.istore (pc := 25) (L2 := [(4, .int 0), (3, .int (r1.1)), (0, .ref 32), (1, .int x1), (2, .int x2)]) dX5_openBehind_25 (by decide) rfl ?_
  exact AR.pick [2, 3, 4, 1, 0] rfl (A5_openBehind_27 x1 x2 (r1.1) (0, r3) r h)
set_option maxHeartbeats 4000000 in
set_option maxRecDepth 100000 in
theorem A5_openWhatIsReached_18_b {l : Launch} (k18 : Int32 × HS → Option (HS)) (x1 : Int32) (hk18 : ∀ (p : Int32 × HS) (r : HS), k18 p = some r → AR l RX5 cX5_openWhatIsReached 3 none (wsU yX5_openWhatIsReached cX5_openWhatIsReached 3 none) rm5_openWhatIsReached SC 18 [(0, .ref 32), (1, .int (p.1))] [] p.2 (none, r)) (σ : HS) (r : HS) (h : f5_openWhatIsReached_18_b k18 x1 σ = some r) : AR l RX5 cX5_openWhatIsReached 3 none (wsU yX5_openWhatIsReached cX5_openWhatIsReached 3 none) rm5_openWhatIsReached SC 18 [(0, .ref 32), (1, .int x1)] [] σ (none, r) := by
  unfold f5_openWhatIsReached_18_b at h
  refine AR.iload_n (pc := 18) (j := 1) dX5_openWhatIsReached_18 rfl rfl ?_
  refine AR.aload_n (pc := 19) (j := 0) dX5_openWhatIsReached_19 rfl rfl ?_
  refine AR.getf (pc := 20) (ci := 5) (j := 5) (d := 0) (v := .int (σ.1 32 5)) (T := TX5) dX5_openWhatIsReached_20 rfl rfl rfl (by decide) (fun w hw => wsU_in (uw_X5 w hw)) (wsU_in fl_X5_22) rfl ?_
  refine AR.icmp_ge (pc := 23) (tgt := 60) dX5_openWhatIsReached_23 (by decide) (fun c1 => ?_) (fun c1 => ?_)
  · replace h := ite_t c1 h
    exact AR.vret (pc := 60) rfl dX5_openWhatIsReached_60 (hrV (Option.some.inj h))
  · replace h := ite_f c1 h
    refine AR.iload_n (pc := 26) (j := 1) dX5_openWhatIsReached_26 rfl rfl ?_
    refine AR.sipush (pc := 27) (v := 600) dX5_openWhatIsReached_27 (by decide) ?_
    refine AR.icmp_ge (pc := 30) (tgt := 60) dX5_openWhatIsReached_30 (by decide) (fun c2 => ?_) (fun c2 => ?_)
    · replace h := ite_t c2 h
      exact AR.vret (pc := 60) rfl dX5_openWhatIsReached_60 (hrV (Option.some.inj h))
    · replace h := ite_f c2 h
      refine AR.aload_n (pc := 33) (j := 0) dX5_openWhatIsReached_33 rfl rfl ?_
      refine AR.getf (pc := 34) (ci := 5) (j := 4) (d := 35 + 2) (v := .ref 35) (T := TX5) dX5_openWhatIsReached_34 rfl rfl rfl (by decide) (fun w hw => wsU_in (uw_X5 w hw)) (wsU_in fl_X5_19) rfl ?_
      refine AR.iload_n (pc := 37) (j := 1) dX5_openWhatIsReached_37 rfl rfl ?_
      obtain ⟨r3, h3, h⟩ := bd_some h
      refine AR.callSN (pc := 38) (As := [.ref 35, .int x1]) (st := []) dX5_openWhatIsReached_38 ⟨cd_X8_at, sm_X8_at, ini_X8⟩ mn_X5_71 (A8_at 35 600 rfl x1 σ _ h3) pd_X8_at ⟨Nat.le_of_ble_eq_true rfl, Nat.le_of_ble_eq_true rfl⟩ ⟨rfl, rfl⟩ rfl (Nat.le_of_ble_eq_true rfl) ?_
      refine AR.istore_n (pc := 41) (L2 := [(2, .int (r3.1)), (0, .ref 32), (1, .int x1)]) dX5_openWhatIsReached_41 rfl (by decide) rfl ?_
      refine AR.aload_n (pc := 42) (j := 1) dX5_openWhatIsReached_42 rfl rfl ?_
      refine AR.iload_n (pc := 43) (j := 0) dX5_openWhatIsReached_43 rfl rfl ?_
      refine AR.bipush (pc := 44) (v := 100) dX5_openWhatIsReached_44 (by decide) ?_
      refine AR.idiv (pc := 46) dX5_openWhatIsReached_46 (by decide) ?_
      refine AR.iload_n (pc := 47) (j := 0) dX5_openWhatIsReached_47 rfl rfl ?_
      refine AR.bipush (pc := 48) (v := 100) dX5_openWhatIsReached_48 (by decide) ?_
      refine AR.irem (pc := 50) dX5_openWhatIsReached_50 (by decide) ?_
      obtain ⟨r4, h4, h⟩ := bd_some h
      refine AR.callV (pc := 51) (As := [.int ((r3.1) / 100), .int ((r3.1) - (r3.1) / 100 * 100)]) (st := []) (ci := 5) dX5_openWhatIsReached_51 ⟨cd_X5_openBehind, im_X5_openBehind, se_X5_openBehind, ini_X5⟩ ml_X5_75 (A5_openBehind ((r3.1) / 100) ((r3.1) - (r3.1) / 100 * 100) (r3.2) _ h4) ⟨rfl, pd_X5_openBehind⟩ ⟨Nat.le_of_ble_eq_true rfl, Nat.le_of_ble_eq_true rfl⟩ ⟨rfl, rfl⟩ rfl rfl rfl (Nat.le_of_ble_eq_true rfl) ?_
      refine AR.iinc (pc := 54) (j := 2) (v := (x1 + 1)) (L2 := [(1, .int (x1 + 1)), (2, .int (r3.1)), (0, .ref 32)]) dX5_openWhatIsReached_54 rfl rfl (by decide) rfl ?_
      refine AR.goto (pc := 57) (tgt := 18) dX5_openWhatIsReached_57 (by decide) ?_
      exact AR.pick [2, 0] rfl (hk18 ((x1 + 1), r4) r h)
theorem A5_openWhatIsReached_18 {l : Launch} (p : Int32 × HS) (r : HS) (h : f5_openWhatIsReached_18 p = some r) : AR l RX5 cX5_openWhatIsReached 3 none (wsU yX5_openWhatIsReached cX5_openWhatIsReached 3 none) rm5_openWhatIsReached SC 18 [(0, .ref 32), (1, .int (p.1))] [] p.2 (none, r) := by
  unfold f5_openWhatIsReached_18 at h
  exact wloop_run (body := fun k18 p => f5_openWhatIsReached_18_b k18 p.1 p.2) (Q := fun p r => AR l RX5 cX5_openWhatIsReached 3 none (wsU yX5_openWhatIsReached cX5_openWhatIsReached 3 none) rm5_openWhatIsReached SC 18 [(0, .ref 32), (1, .int (p.1))] [] p.2 (none, r)) (fun k18 hk18 p r h => A5_openWhatIsReached_18_b k18 p.1 hk18 p.2 r h) fuelN p r h
set_option maxHeartbeats 4000000 in
set_option maxRecDepth 100000 in
theorem A5_openWhatIsReached {l : Launch} (σ : HS) (r : HS) (h : f5_openWhatIsReached σ = some r) : MA l yX5_openWhatIsReached (wsU yX5_openWhatIsReached cX5_openWhatIsReached 3 none) rm5_openWhatIsReached SC [.ref 32] σ (none, r) := by
  refine MA.of (L := [(0, .ref 32)]) pn_X5_openWhatIsReached rfl (fun _ => Nat.le_of_ble_eq_true rfl) (fun _ => rfl) ?_
  unfold f5_openWhatIsReached at h
  refine AR.aload_n (pc := 0) (j := 0) dX5_openWhatIsReached_0 rfl rfl ?_
  obtain ⟨r1, h1, h⟩ := bd_some h
  refine AR.callV (pc := 1) (As := []) (st := []) (ci := 5) dX5_openWhatIsReached_1 ⟨cd_X5_beginMaking, im_X5_beginMaking, se_X5_beginMaking, ini_X5⟩ ml_X5_46 (A5_beginMaking 30 grp30 σ _ h1) ⟨rfl, pd_X5_beginMaking⟩ ⟨Nat.le_of_ble_eq_true rfl, Nat.le_of_ble_eq_true rfl⟩ ⟨rfl, rfl⟩ rfl rfl rfl (Nat.le_of_ble_eq_true rfl) ?_
  refine AR.aload_n (pc := 4) (j := 0) dX5_openWhatIsReached_4 rfl rfl ?_
  refine AR.iconst (pc := 5) (v := 0) dX5_openWhatIsReached_5 (by decide) ?_
  refine AR.aload_n (pc := 6) (j := 0) dX5_openWhatIsReached_6 rfl rfl ?_
  refine AR.getf (pc := 7) (ci := 5) (j := 0) (d := 30 + 2) (v := .ref 30) (T := TX5) dX5_openWhatIsReached_7 rfl rfl rfl (by decide) (fun w hw => wsU_in (uw_X5 w hw)) (wsU_in fl_X5_35) rfl ?_
  obtain ⟨r2, h2, h⟩ := bd_some h
  refine AR.callVN (pc := 10) (As := []) (st := [.int 0, .ref 32]) (ci := 0) dX5_openWhatIsReached_10 ⟨cd_X0_firstWater, im_X0_firstWater, se_X0_firstWater, ini_X0⟩ mn_X5_68 (A0_firstWater 30 grp30 r1 _ h2) ⟨rfl, pd_X0_firstWater⟩ ⟨Nat.le_of_ble_eq_true rfl, Nat.le_of_ble_eq_true rfl⟩ ⟨rfl, rfl⟩ rfl rfl rfl (Nat.le_of_ble_eq_true rfl) ?_
  obtain ⟨r3, h3, h⟩ := bd_some h
  refine AR.callV (pc := 13) (As := [.int 0, .int (r2.1)]) (st := []) (ci := 5) dX5_openWhatIsReached_13 ⟨cd_X5_openState, im_X5_openState, se_X5_openState, ini_X5⟩ ml_X5_54 (A5_openState 30 grp30 0 (r2.1) (r2.2) _ h3) ⟨rfl, pd_X5_openState⟩ ⟨Nat.le_of_ble_eq_true rfl, Nat.le_of_ble_eq_true rfl⟩ ⟨rfl, rfl⟩ rfl rfl rfl (Nat.le_of_ble_eq_true rfl) ?_
  refine AR.iconst (pc := 16) (v := 0) dX5_openWhatIsReached_16 (by decide) ?_
  refine AR.istore_n (pc := 17) (L2 := [(1, .int 0), (0, .ref 32)]) dX5_openWhatIsReached_17 rfl (by decide) rfl ?_
  exact AR.pick [1, 0] rfl (A5_openWhatIsReached_18 (0, r3) r h)
set_option maxHeartbeats 4000000 in
set_option maxRecDepth 100000 in
theorem A4_kindOf {l : Launch} (b : Nat) (hb : Ppl b) (x1 : Int32) (σ : HS) (r : Int32 × HS) (h : f4_kindOf b x1 σ = some r) : MA l yX4_kindOf (wsU yX4_kindOf cX4_kindOf 2 (some .int)) rm4_kindOf SC [.ref b, .int x1] σ (some (.int r.1), r.2) := by
  refine MA.of (L := [(0, .ref b), (1, .int x1)]) pn_X4_kindOf rfl (fun _ => Nat.le_of_ble_eq_true rfl) (fun _ => rfl) ?_
  unfold f4_kindOf at h
  refine AR.aload_n (pc := 0) (j := 0) dX4_kindOf_0 rfl rfl ?_
  refine AR.getf (pc := 1) (ci := 4) (j := 3) (d := (b + 1) + 2) (v := .ref (b + 1)) (T := TX4) dX4_kindOf_1 (pp0 hb) rfl rfl (by decide) (fun w hw => wsU_in (uw_X4 w hw)) (wsU_in fl_X4_21) rfl ?_
  refine AR.iload_n (pc := 4) (j := 1) dX4_kindOf_4 rfl rfl ?_
  obtain ⟨r1, h1, h⟩ := bd_some h
  refine AR.callSN (pc := 5) (As := [.ref (b + 1), .int x1]) (st := []) dX4_kindOf_5 ⟨cd_X8_at, sm_X8_at, ini_X8⟩ mn_X4_85 (A8_at (b + 1) 5 (pp1 hb) x1 σ _ h1) pd_X8_at ⟨Nat.le_of_ble_eq_true rfl, Nat.le_of_ble_eq_true rfl⟩ ⟨rfl, rfl⟩ rfl (Nat.le_of_ble_eq_true rfl) ?_
  exact AR.iret (pc := 8) rfl dX4_kindOf_8 (hrI (Option.some.inj h))
set_option maxHeartbeats 4000000 in
set_option maxRecDepth 100000 in
theorem A5_worthsFrom {l : Launch} (g : Nat) (hg : Grp g) (x1 : Int32) (x2 : Int32) (σ : HS) (r : Int64 × HS) (h : f5_worthsFrom g x1 x2 σ = some r) : MA l yX5_worthsFrom (wsU yX5_worthsFrom cX5_worthsFrom 3 (some .long)) rm5_worthsFrom SC [.ref (g + 2), .int x1, .int x2] σ (some (.long r.1), r.2) := by
  refine MA.of (L := [(0, .ref (g + 2)), (1, .int x1), (2, .int x2)]) pn_X5_worthsFrom rfl (fun _ => Nat.le_of_ble_eq_true rfl) (fun _ => rfl) ?_
  unfold f5_worthsFrom at h
  refine AR.iload_n (pc := 0) (j := 1) dX5_worthsFrom_0 rfl rfl ?_
  refine AR.aload_n (pc := 1) (j := 0) dX5_worthsFrom_1 rfl rfl ?_
  refine AR.getf (pc := 2) (ci := 5) (j := 8) (d := 0) (v := .int (σ.1 (g + 2) 8)) (T := TX5) dX5_worthsFrom_2 (gr2 hg) rfl rfl (by decide) (fun w hw => wsU_in (uw_X5 w hw)) (wsU_in fl_X5_32) rfl ?_
  refine AR.icmp_ge (pc := 5) (tgt := 23) dX5_worthsFrom_5 (by decide) (fun c1 => ?_) (fun c1 => ?_)
  · replace h := ite_t c1 h
    refine AR.lconst (pc := 23) (v := 0) dX5_worthsFrom_23 (by decide) ?_
    exact AR.lret (pc := 24) rfl dX5_worthsFrom_24 (hrL (Option.some.inj h))
  · replace h := ite_f c1 h
    refine AR.aload_n (pc := 8) (j := 0) dX5_worthsFrom_8 rfl rfl ?_
    refine AR.getf (pc := 9) (ci := 5) (j := 3) (d := (g + 4) + 2) (v := .ref (g + 4)) (T := TX5) dX5_worthsFrom_9 (gr2 hg) rfl rfl (by decide) (fun w hw => wsU_in (uw_X5 w hw)) (wsU_in fl_X5_15) rfl ?_
    refine AR.iload_n (pc := 12) (j := 1) dX5_worthsFrom_12 rfl rfl ?_
    refine AR.iload_n (pc := 13) (j := 2) dX5_worthsFrom_13 rfl rfl ?_
    obtain ⟨r2, h2, h⟩ := bd_some h
    refine AR.callS (pc := 14) (As := [.int x1, .int x2]) (st := [.ref (g + 4)]) dX5_worthsFrom_14 ⟨cd_X5_stateOf, sm_X5_stateOf, ini_X5⟩ ml_X5_92 (A5_stateOf x1 x2 σ _ h2) ⟨rfl, pd_X5_stateOf⟩ ⟨Nat.le_of_ble_eq_true rfl, Nat.le_of_ble_eq_true rfl⟩ ⟨rfl, rfl⟩ rfl (Nat.le_of_ble_eq_true rfl) ?_
    obtain ⟨r3, h3, h⟩ := bd_some h
    refine AR.callSN (pc := 17) (As := [.ref (g + 4), .int (r2.1)]) (st := []) dX5_worthsFrom_17 ⟨cd_X8_longAt, sm_X8_longAt, ini_X8⟩ mn_X5_129 (A8_longAt (g + 4) 600 (gr4 hg) (r2.1) (r2.2) _ h3) pd_X8_longAt ⟨Nat.le_of_ble_eq_true rfl, Nat.le_of_ble_eq_true rfl⟩ ⟨rfl, rfl⟩ rfl (Nat.le_of_ble_eq_true rfl) ?_
    refine AR.goto (pc := 20) (tgt := 24) dX5_worthsFrom_20 (by decide) ?_
    exact AR.lret (pc := 24) rfl dX5_worthsFrom_24 (hrL (Option.some.inj h))
set_option maxHeartbeats 4000000 in
set_option maxRecDepth 100000 in
theorem A8_worthIn_23 {l : Launch} (σ : HS) (r : Int32 × HS) (h : f8_worthIn_23 σ = some r) : AR l RX8 cX8_worthIn 3 (some .int) (wsU yX8_worthIn cX8_worthIn 3 (some .int)) rm8_worthIn SC 23 [] [] σ (some (.int r.1), r.2) := by
  unfold f8_worthIn_23 at h
  refine AR.iconst (pc := 23) (v := 0) dX8_worthIn_23 (by decide) ?_
  exact AR.iret (pc := 24) rfl dX8_worthIn_24 (hrI (Option.some.inj h))
set_option maxHeartbeats 4000000 in
set_option maxRecDepth 100000 in
theorem A8_worthIn {l : Launch} (x0 : Int64) (x2 : Int32) (σ : HS) (r : Int32 × HS) (h : f8_worthIn x0 x2 σ = some r) : MA l yX8_worthIn (wsU yX8_worthIn cX8_worthIn 3 (some .int)) rm8_worthIn SC [.long x0, .int x2] σ (some (.int r.1), r.2) := by
  refine MA.of (L := [(0, .long x0), (2, .int x2)]) pn_X8_worthIn rfl (fun _ => Nat.le_of_ble_eq_true rfl) (fun _ => rfl) ?_
  unfold f8_worthIn at h
  refine AR.iload_n (pc := 0) (j := 1) dX8_worthIn_0 rfl rfl ?_
  refine AR.if_lt (pc := 1) (tgt := 23) dX8_worthIn_1 (by decide) (fun c1 => ?_) (fun c1 => ?_)
  · replace h := ite_t c1 h
    exact AR.pick [] rfl (A8_worthIn_23 σ r h)
  · replace h := ite_f c1 h
    refine AR.iload_n (pc := 4) (j := 1) dX8_worthIn_4 rfl rfl ?_
    refine AR.iconst (pc := 5) (v := 5) dX8_worthIn_5 (by decide) ?_
    refine AR.icmp_ge (pc := 6) (tgt := 23) dX8_worthIn_6 (by decide) (fun c2 => ?_) (fun c2 => ?_)
    · replace h := ite_t c2 h
      exact AR.pick [] rfl (A8_worthIn_23 σ r h)
    · replace h := ite_f c2 h
      refine AR.lload_n (pc := 9) (j := 0) dX8_worthIn_9 rfl rfl ?_
      refine AR.iload_n (pc := 10) (j := 1) dX8_worthIn_10 rfl rfl ?_
      refine AR.bipush (pc := 11) (v := 8) dX8_worthIn_11 (by decide) ?_
      refine AR.imul (pc := 13) dX8_worthIn_13 ?_
      refine AR.lshr (pc := 14) dX8_worthIn_14 ?_
      refine AR.l2i (pc := 15) dX8_worthIn_15 ?_
      refine AR.sipush (pc := 16) (v := 255) dX8_worthIn_16 (by decide) ?_
      refine AR.iand (pc := 19) dX8_worthIn_19 ?_
      refine AR.goto (pc := 20) (tgt := 24) dX8_worthIn_20 (by decide) ?_
      exact AR.iret (pc := 24) rfl dX8_worthIn_24 (hrI (Option.some.inj h))
set_option maxHeartbeats 4000000 in
set_option maxRecDepth 100000 in
theorem A8_worthToAll_4_b {l : Launch} (k4 : Int32 × Int32 × HS → Option (Int32 × HS)) (x0 : Int64) (x2 : Int32) (x3 : Int32) (hk4 : ∀ (p : Int32 × Int32 × HS) (r : Int32 × HS), k4 p = some r → AR l RX8 cX8_worthToAll 4 (some .int) (wsU yX8_worthToAll cX8_worthToAll 4 (some .int)) rm8_worthToAll SC 4 [(0, .long x0), (2, .int (p.1)), (3, .int (p.2.1))] [] p.2.2 (some (.int r.1), r.2)) (σ : HS) (r : Int32 × HS) (h : f8_worthToAll_4_b k4 x0 x2 x3 σ = some r) : AR l RX8 cX8_worthToAll 4 (some .int) (wsU yX8_worthToAll cX8_worthToAll 4 (some .int)) rm8_worthToAll SC 4 [(0, .long x0), (2, .int x2), (3, .int x3)] [] σ (some (.int r.1), r.2) := by
  unfold f8_worthToAll_4_b at h
  refine AR.iload_n (pc := 4) (j := 2) dX8_worthToAll_4 rfl rfl ?_
  refine AR.iconst (pc := 5) (v := 5) dX8_worthToAll_5 (by decide) ?_
  refine AR.icmp_ge (pc := 6) (tgt := 23) dX8_worthToAll_6 (by decide) (fun c1 => ?_) (fun c1 => ?_)
  · replace h := ite_t c1 h
    refine AR.iload_n (pc := 23) (j := 1) dX8_worthToAll_23 rfl rfl ?_
    exact AR.iret (pc := 24) rfl dX8_worthToAll_24 (hrI (Option.some.inj h))
  · replace h := ite_f c1 h
    refine AR.iload_n (pc := 9) (j := 1) dX8_worthToAll_9 rfl rfl ?_
    refine AR.lload_n (pc := 10) (j := 0) dX8_worthToAll_10 rfl rfl ?_
    refine AR.iload_n (pc := 11) (j := 2) dX8_worthToAll_11 rfl rfl ?_
    obtain ⟨r2, h2, h⟩ := bd_some h
    refine AR.callS (pc := 12) (As := [.long x0, .int x3]) (st := [.int x2]) dX8_worthToAll_12 ⟨cd_X8_worthIn, sm_X8_worthIn, ini_X8⟩ ml_X8_101 (A8_worthIn x0 x3 σ _ h2) ⟨rfl, pd_X8_worthIn⟩ ⟨Nat.le_of_ble_eq_true rfl, Nat.le_of_ble_eq_true rfl⟩ ⟨rfl, rfl⟩ rfl (Nat.le_of_ble_eq_true rfl) ?_
    refine AR.iadd (pc := 15) dX8_worthToAll_15 ?_
    refine AR.istore_n (pc := 16) (L2 := [(2, .int (x2 + (r2.1))), (0, .long x0), (3, .int x3)]) dX8_worthToAll_16 rfl (by decide) rfl ?_
    refine AR.iinc (pc := 17) (j := 2) (v := (x3 + 1)) (L2 := [(3, .int (x3 + 1)), (2, .int (x2 + (r2.1))), (0, .long x0)]) dX8_worthToAll_17 rfl rfl (by decide) rfl ?_
    refine AR.goto (pc := 20) (tgt := 4) dX8_worthToAll_20 (by decide) ?_
    exact AR.pick [2, 1, 0] rfl (hk4 ((x2 + (r2.1)), (x3 + 1), r2.2) r h)
theorem A8_worthToAll_4 {l : Launch} (x0 : Int64) (p : Int32 × Int32 × HS) (r : Int32 × HS) (h : f8_worthToAll_4 x0 p = some r) : AR l RX8 cX8_worthToAll 4 (some .int) (wsU yX8_worthToAll cX8_worthToAll 4 (some .int)) rm8_worthToAll SC 4 [(0, .long x0), (2, .int (p.1)), (3, .int (p.2.1))] [] p.2.2 (some (.int r.1), r.2) := by
  unfold f8_worthToAll_4 at h
  exact wloop_run (body := fun k4 p => f8_worthToAll_4_b k4 x0 p.1 p.2.1 p.2.2) (Q := fun p r => AR l RX8 cX8_worthToAll 4 (some .int) (wsU yX8_worthToAll cX8_worthToAll 4 (some .int)) rm8_worthToAll SC 4 [(0, .long x0), (2, .int (p.1)), (3, .int (p.2.1))] [] p.2.2 (some (.int r.1), r.2)) (fun k4 hk4 p r h => A8_worthToAll_4_b k4 x0 p.1 p.2.1 hk4 p.2.2 r h) fuelN p r h
set_option maxHeartbeats 4000000 in
set_option maxRecDepth 100000 in
theorem A8_worthToAll {l : Launch} (x0 : Int64) (σ : HS) (r : Int32 × HS) (h : f8_worthToAll x0 σ = some r) : MA l yX8_worthToAll (wsU yX8_worthToAll cX8_worthToAll 4 (some .int)) rm8_worthToAll SC [.long x0] σ (some (.int r.1), r.2) := by
  refine MA.of (L := [(0, .long x0)]) pn_X8_worthToAll rfl (fun _ => Nat.le_of_ble_eq_true rfl) (fun _ => rfl) ?_
  unfold f8_worthToAll at h
  refine AR.iconst (pc := 0) (v := 0) dX8_worthToAll_0 (by decide) ?_
  refine AR.istore_n (pc := 1) (L2 := [(2, .int 0), (0, .long x0)]) dX8_worthToAll_1 rfl (by decide) rfl ?_
  refine AR.iconst (pc := 2) (v := 0) dX8_worthToAll_2 (by decide) ?_
  refine AR.istore_n (pc := 3) (L2 := [(3, .int 0), (2, .int 0), (0, .long x0)]) dX8_worthToAll_3 rfl (by decide) rfl ?_
  exact AR.pick [2, 1, 0] rfl (A8_worthToAll_4 x0 (0, 0, σ) r h)
