noncomputable def f9_leftBy (x1 : Int32) (x2 : Int32) (x3 : Int32) (σ : HS) : Option (Int32 × HS) :=
  if 0 ≤ (x2 : Int32) then
    if (((3 * x1) + x2) : Int32) < 0 ∨ 15 ≤ (((3 * x1) + x2) : Int32).toNatClampNeg then none else
    if (x3 : Int32) < (σ.1 3 (((3 * x1) + x2) : Int32).toNatClampNeg) then
      some (0, σ)
    else
      if (((3 * x1) + x2) : Int32) < 0 ∨ 15 ≤ (((3 * x1) + x2) : Int32).toNatClampNeg then none else
      some ((x3 - (σ.1 3 (((3 * x1) + x2) : Int32).toNatClampNeg)), σ)
  else
    some (x3, σ)
set_option maxHeartbeats 4000000 in
set_option maxRecDepth 100000 in
theorem A9_leftBy {l : Launch} (x1 : Int32) (x2 : Int32) (x3 : Int32) (σ : HS) (r : Int32 × HS) (h : f9_leftBy x1 x2 x3 σ = some r) : MA l yX9_leftBy (wsU yX9_leftBy cX9_leftBy 4 (some .int)) rm9_leftBy SM [.ref 0, .int x1, .int x2, .int x3] σ (some (.int r.1), r.2) := by
  refine MA.of (L := [(0, .ref 0), (1, .int x1), (2, .int x2), (3, .int x3)]) pn_X9_leftBy rfl (fun _ => Nat.le_of_ble_eq_true rfl) (fun _ => rfl) ?_
  unfold f9_leftBy at h
  refine AR.iload_n (pc := 0) (j := 2) dX9_leftBy_0 rfl rfl ?_
  refine AR.if_ge (pc := 1) (tgt := 6) dX9_leftBy_1 (by decide) (fun c1 => ?_) (fun c1 => ?_)
  · replace h := ite_t c1 h
    refine AR.aload_n (pc := 6) (j := 0) dX9_leftBy_6 rfl rfl ?_
    refine AR.getf (pc := 7) (ci := 9) (j := 7) (d := 3 + 2) (v := .ref 3) (T := TX9) dX9_leftBy_7 rfl rfl rfl (by decide) (fun w hw => wsU_in (uw_X9 w hw)) (wsU_in fl_X9_16) rfl ?_
    refine AR.iconst (pc := 10) (v := 3) dX9_leftBy_10 (by decide) ?_
    refine AR.iload_n (pc := 11) (j := 1) dX9_leftBy_11 rfl rfl ?_
    refine AR.imul (pc := 12) dX9_leftBy_12 ?_
    refine AR.iload_n (pc := 13) (j := 2) dX9_leftBy_13 rfl rfl ?_
    refine AR.iadd (pc := 14) dX9_leftBy_14 ?_
    obtain ⟨c2, h⟩ := gn_some h
    refine AR.iaload (pc := 15) dX9_leftBy_15 rfl c2 ?_
    refine AR.iload_n (pc := 16) (j := 3) dX9_leftBy_16 rfl rfl ?_
    refine AR.icmp_gt (pc := 17) (tgt := 35) dX9_leftBy_17 (by decide) (fun c3 => ?_) (fun c3 => ?_)
    · replace h := ite_t c3 h
      refine AR.iconst (pc := 35) (v := 0) dX9_leftBy_35 (by decide) ?_
      exact AR.iret (pc := 36) rfl dX9_leftBy_36 (hrI (Option.some.inj h))
    · replace h := ite_f c3 h
      refine AR.iload_n (pc := 20) (j := 3) dX9_leftBy_20 rfl rfl ?_
      refine AR.aload_n (pc := 21) (j := 0) dX9_leftBy_21 rfl rfl ?_
      refine AR.getf (pc := 22) (ci := 9) (j := 7) (d := 3 + 2) (v := .ref 3) (T := TX9) dX9_leftBy_22 rfl rfl rfl (by decide) (fun w hw => wsU_in (uw_X9 w hw)) (wsU_in fl_X9_16) rfl ?_
      refine AR.iconst (pc := 25) (v := 3) dX9_leftBy_25 (by decide) ?_
      refine AR.iload_n (pc := 26) (j := 1) dX9_leftBy_26 rfl rfl ?_
      refine AR.imul (pc := 27) dX9_leftBy_27 ?_
      refine AR.iload_n (pc := 28) (j := 2) dX9_leftBy_28 rfl rfl ?_
      refine AR.iadd (pc := 29) dX9_leftBy_29 ?_
      obtain ⟨c4, h⟩ := gn_some h
      refine AR.iaload (pc := 30) dX9_leftBy_30 rfl c4 ?_
      refine AR.isub (pc := 31) dX9_leftBy_31 ?_
      refine AR.goto (pc := 32) (tgt := 36) dX9_leftBy_32 (by decide) ?_
      exact AR.iret (pc := 36) rfl dX9_leftBy_36 (hrI (Option.some.inj h))
  · replace h := ite_f c1 h
    refine AR.iload_n (pc := 4) (j := 3) dX9_leftBy_4 rfl rfl ?_
    exact AR.iret (pc := 5) rfl dX9_leftBy_5 (hrI (Option.some.inj h))
noncomputable def f9_isHeard_22 (σ : HS) : Option (Int32 × HS) :=
  some (0, σ)
noncomputable def f9_isHeard (x1 : Int32) (x2 : Int32) (x3 : Int32) (σ : HS) : Option (Int32 × HS) :=
  if (x2 : Int32) < 0 then
    f9_isHeard_22 σ
  else
    if (((3 * x1) + x2) : Int32) < 0 ∨ 15 ≤ (((3 * x1) + x2) : Int32).toNatClampNeg then none else
    if (x3 : Int32) < (σ.1 3 (((3 * x1) + x2) : Int32).toNatClampNeg) then
      f9_isHeard_22 σ
    else
      some (1, σ)
set_option maxHeartbeats 4000000 in
set_option maxRecDepth 100000 in
theorem A9_isHeard_22 {l : Launch} (σ : HS) (r : Int32 × HS) (h : f9_isHeard_22 σ = some r) : AR l RX9 cX9_isHeard 4 (some .boolean) (wsU yX9_isHeard cX9_isHeard 4 (some .boolean)) rm9_isHeard SM 22 [] [] σ (some (.int r.1), r.2) := by
  unfold f9_isHeard_22 at h
  refine AR.iconst (pc := 22) (v := 0) dX9_isHeard_22 (by decide) ?_
  exact AR.zret (pc := 23) rfl (Or.inl rfl) dX9_isHeard_23 (hrI (Option.some.inj h))
set_option maxHeartbeats 4000000 in
set_option maxRecDepth 100000 in
theorem A9_isHeard {l : Launch} (x1 : Int32) (x2 : Int32) (x3 : Int32) (σ : HS) (r : Int32 × HS) (h : f9_isHeard x1 x2 x3 σ = some r) : MA l yX9_isHeard (wsU yX9_isHeard cX9_isHeard 4 (some .boolean)) rm9_isHeard SM [.ref 0, .int x1, .int x2, .int x3] σ (some (.int r.1), r.2) := by
  refine MA.of (L := [(0, .ref 0), (1, .int x1), (2, .int x2), (3, .int x3)]) pn_X9_isHeard rfl (fun _ => Nat.le_of_ble_eq_true rfl) (fun _ => rfl) ?_
  unfold f9_isHeard at h
  refine AR.iload_n (pc := 0) (j := 2) dX9_isHeard_0 rfl rfl ?_
  refine AR.if_lt (pc := 1) (tgt := 22) dX9_isHeard_1 (by decide) (fun c1 => ?_) (fun c1 => ?_)
  · replace h := ite_t c1 h
    exact AR.pick [] rfl (A9_isHeard_22 σ r h)
  · replace h := ite_f c1 h
    refine AR.aload_n (pc := 4) (j := 0) dX9_isHeard_4 rfl rfl ?_
    refine AR.getf (pc := 5) (ci := 9) (j := 7) (d := 3 + 2) (v := .ref 3) (T := TX9) dX9_isHeard_5 rfl rfl rfl (by decide) (fun w hw => wsU_in (uw_X9 w hw)) (wsU_in fl_X9_16) rfl ?_
    refine AR.iconst (pc := 8) (v := 3) dX9_isHeard_8 (by decide) ?_
    refine AR.iload_n (pc := 9) (j := 1) dX9_isHeard_9 rfl rfl ?_
    refine AR.imul (pc := 10) dX9_isHeard_10 ?_
    refine AR.iload_n (pc := 11) (j := 2) dX9_isHeard_11 rfl rfl ?_
    refine AR.iadd (pc := 12) dX9_isHeard_12 ?_
    obtain ⟨c2, h⟩ := gn_some h
    refine AR.iaload (pc := 13) dX9_isHeard_13 rfl c2 ?_
    refine AR.iload_n (pc := 14) (j := 3) dX9_isHeard_14 rfl rfl ?_
    refine AR.icmp_gt (pc := 15) (tgt := 22) dX9_isHeard_15 (by decide) (fun c3 => ?_) (fun c3 => ?_)
    · replace h := ite_t c3 h
      exact AR.pick [] rfl (A9_isHeard_22 σ r h)
    · replace h := ite_f c3 h
      refine AR.iconst (pc := 18) (v := 1) dX9_isHeard_18 (by decide) ?_
      refine AR.goto (pc := 19) (tgt := 23) dX9_isHeard_19 (by decide) ?_
      exact AR.zret (pc := 23) rfl (Or.inr rfl) dX9_isHeard_23 (hrI (Option.some.inj h))
noncomputable def f9_worthFor (x1 : Int32) (x2 : Int32) (x3 : Int32) (σ : HS) : Option (Int32 × HS) :=
  if 0 ≤ (x3 : Int32) then
    if (x1 : Int32) = x2 then
      if (((3 * x2) + x3) : Int32) < 0 ∨ 15 ≤ (((3 * x2) + x3) : Int32).toNatClampNeg then none else
      some ((σ.1 4 (((3 * x2) + x3) : Int32).toNatClampNeg), σ)
    else
      if (((3 * x2) + x3) : Int32) < 0 ∨ 15 ≤ (((3 * x2) + x3) : Int32).toNatClampNeg then none else
      some ((σ.1 5 (((3 * x2) + x3) : Int32).toNatClampNeg), σ)
  else
    some (0, σ)
set_option maxHeartbeats 4000000 in
set_option maxRecDepth 100000 in
theorem A9_worthFor {l : Launch} (x1 : Int32) (x2 : Int32) (x3 : Int32) (σ : HS) (r : Int32 × HS) (h : f9_worthFor x1 x2 x3 σ = some r) : MA l yX9_worthFor (wsU yX9_worthFor cX9_worthFor 4 (some .int)) rm9_worthFor SM [.ref 0, .int x1, .int x2, .int x3] σ (some (.int r.1), r.2) := by
  refine MA.of (L := [(0, .ref 0), (1, .int x1), (2, .int x2), (3, .int x3)]) pn_X9_worthFor rfl (fun _ => Nat.le_of_ble_eq_true rfl) (fun _ => rfl) ?_
  unfold f9_worthFor at h
  refine AR.iload_n (pc := 0) (j := 3) dX9_worthFor_0 rfl rfl ?_
  refine AR.if_ge (pc := 1) (tgt := 8) dX9_worthFor_1 (by decide) (fun c1 => ?_) (fun c1 => ?_)
  · replace h := ite_t c1 h
    refine AR.iload_n (pc := 8) (j := 1) dX9_worthFor_8 rfl rfl ?_
    refine AR.iload_n (pc := 9) (j := 2) dX9_worthFor_9 rfl rfl ?_
    refine AR.icmp_ne (pc := 10) (tgt := 26) dX9_worthFor_10 (by decide) (fun c2 => ?_) (fun c2 => ?_)
    · replace h := ite_f c2 h
      refine AR.aload_n (pc := 26) (j := 0) dX9_worthFor_26 rfl rfl ?_
      refine AR.getf (pc := 27) (ci := 9) (j := 9) (d := 5 + 2) (v := .ref 5) (T := TX9) dX9_worthFor_27 rfl rfl rfl (by decide) (fun w hw => wsU_in (uw_X9 w hw)) (wsU_in fl_X9_22) rfl ?_
      refine AR.iconst (pc := 30) (v := 3) dX9_worthFor_30 (by decide) ?_
      refine AR.iload_n (pc := 31) (j := 2) dX9_worthFor_31 rfl rfl ?_
      refine AR.imul (pc := 32) dX9_worthFor_32 ?_
      refine AR.iload_n (pc := 33) (j := 3) dX9_worthFor_33 rfl rfl ?_
      refine AR.iadd (pc := 34) dX9_worthFor_34 ?_
      obtain ⟨c3, h⟩ := gn_some h
      refine AR.iaload (pc := 35) dX9_worthFor_35 rfl c3 ?_
      exact AR.iret (pc := 36) rfl dX9_worthFor_36 (hrI (Option.some.inj h))
    · replace h := ite_t c2 h
      refine AR.aload_n (pc := 13) (j := 0) dX9_worthFor_13 rfl rfl ?_
      refine AR.getf (pc := 14) (ci := 9) (j := 8) (d := 4 + 2) (v := .ref 4) (T := TX9) dX9_worthFor_14 rfl rfl rfl (by decide) (fun w hw => wsU_in (uw_X9 w hw)) (wsU_in fl_X9_19) rfl ?_
      refine AR.iconst (pc := 17) (v := 3) dX9_worthFor_17 (by decide) ?_
      refine AR.iload_n (pc := 18) (j := 2) dX9_worthFor_18 rfl rfl ?_
      refine AR.imul (pc := 19) dX9_worthFor_19 ?_
      refine AR.iload_n (pc := 20) (j := 3) dX9_worthFor_20 rfl rfl ?_
      refine AR.iadd (pc := 21) dX9_worthFor_21 ?_
      obtain ⟨c4, h⟩ := gn_some h
      refine AR.iaload (pc := 22) dX9_worthFor_22 rfl c4 ?_
      refine AR.goto (pc := 23) (tgt := 36) dX9_worthFor_23 (by decide) ?_
      exact AR.iret (pc := 36) rfl dX9_worthFor_36 (hrI (Option.some.inj h))
  · replace h := ite_f c1 h
    refine AR.iconst (pc := 4) (v := 0) dX9_worthFor_4 (by decide) ?_
    refine AR.goto (pc := 5) (tgt := 36) dX9_worthFor_5 (by decide) ?_
    exact AR.iret (pc := 36) rfl dX9_worthFor_36 (hrI (Option.some.inj h))
noncomputable def f9_beginDay_2_b (k2 : Int32 × HS → Option (HS)) (x1 : Int32) (σ : HS) : Option (HS) :=
  if (5 : Int32) ≤ x1 then
    bd (f9_startWater (uI (uI σ 0 23 0) 0 24 (-9))) fun r2 =>
    if (0 : Int32) < 0 ∨ 7 ≤ (0 : Int32).toNatClampNeg then none else
    some (uI (r2.2) 13 (0 : Int32).toNatClampNeg (r2.1))
  else
    if (x1 : Int32) < 0 ∨ 5 ≤ (x1 : Int32).toNatClampNeg then none else
    k2 ((x1 + 1), (uI σ 14 (x1 : Int32).toNatClampNeg 0))
noncomputable def f9_beginDay_2 (p : Int32 × HS) : Option (HS) :=
  wloop (fun k2 p => f9_beginDay_2_b k2 p.1 p.2) fuelN p
noncomputable def f9_beginDay (σ : HS) : Option (HS) :=
  f9_beginDay_2 (0, σ)
set_option maxHeartbeats 4000000 in
set_option maxRecDepth 100000 in
theorem A9_beginDay_2_b {l : Launch} (k2 : Int32 × HS → Option (HS)) (x1 : Int32) (hk2 : ∀ (p : Int32 × HS) (r : HS), k2 p = some r → AR l RX9 cX9_beginDay 2 none (wsU yX9_beginDay cX9_beginDay 2 none) rm9_beginDay SM 2 [(0, .ref 0), (1, .int (p.1))] [] p.2 (none, r)) (σ : HS) (r : HS) (h : f9_beginDay_2_b k2 x1 σ = some r) : AR l RX9 cX9_beginDay 2 none (wsU yX9_beginDay cX9_beginDay 2 none) rm9_beginDay SM 2 [(0, .ref 0), (1, .int x1)] [] σ (none, r) := by
  unfold f9_beginDay_2_b at h
  refine AR.iload_n (pc := 2) (j := 1) dX9_beginDay_2 rfl rfl ?_
  refine AR.iconst (pc := 3) (v := 5) dX9_beginDay_3 (by decide) ?_
  refine AR.icmp_ge (pc := 4) (tgt := 20) dX9_beginDay_4 (by decide) (fun c1 => ?_) (fun c1 => ?_)
  · replace h := ite_t c1 h
    refine AR.aload_n (pc := 20) (j := 0) dX9_beginDay_20 rfl rfl ?_
    refine AR.iconst (pc := 21) (v := 0) dX9_beginDay_21 (by decide) ?_
    refine AR.putI (pc := 22) (ci := 9) (j := 23) (T := TX9) (ty0 := tyX9) (ty := .int) dX9_beginDay_22 rfl rfl rfl (by decide) (fun w hw => wsU_in (uw_X9 w hw)) tyX9_ok nmX9 (wsU_in fl_X9_194) rfl (by decide +kernel) rfl rfl ?_
    refine AR.aload_n (pc := 25) (j := 0) dX9_beginDay_25 rfl rfl ?_
    refine AR.bipush (pc := 26) (v := (-9)) dX9_beginDay_26 (by decide) ?_
    refine AR.putI (pc := 28) (ci := 9) (j := 24) (T := TX9) (ty0 := tyX9) (ty := .int) dX9_beginDay_28 rfl rfl rfl (by decide) (fun w hw => wsU_in (uw_X9 w hw)) tyX9_ok nmX9 (wsU_in fl_X9_197) rfl (by decide +kernel) rfl rfl ?_
    refine AR.aload_n (pc := 31) (j := 0) dX9_beginDay_31 rfl rfl ?_
    refine AR.getf (pc := 32) (ci := 9) (j := 21) (d := 13 + 2) (v := .ref 13) (T := TX9) dX9_beginDay_32 rfl rfl rfl (by decide) (fun w hw => wsU_in (uw_X9 w hw)) (wsU_in fl_X9_46) rfl ?_
    refine AR.iconst (pc := 35) (v := 0) dX9_beginDay_35 (by decide) ?_
    refine AR.aload_n (pc := 36) (j := 0) dX9_beginDay_36 rfl rfl ?_
    obtain ⟨r2, h2, h⟩ := bd_some h
    refine AR.callV (pc := 37) (As := []) (st := [.int 0, .ref 13]) (ci := 9) dX9_beginDay_37 ⟨cd_X9_startWater, im_X9_startWater, se_X9_startWater, ini_X9⟩ ml_X9_187 (A9_startWater (uI (uI σ 0 23 0) 0 24 (-9)) _ h2) ⟨rfl, pd_X9_startWater⟩ ⟨Nat.le_of_ble_eq_true rfl, Nat.le_of_ble_eq_true rfl⟩ ⟨rfl, rfl⟩ rfl rfl rfl (Nat.le_of_ble_eq_true rfl) ?_
    obtain ⟨c3, h⟩ := gn_some h
    refine AR.iastore (pc := 40) dX9_beginDay_40 rfl c3 ?_
    exact AR.vret (pc := 41) rfl dX9_beginDay_41 (hrV (Option.some.inj h))
  · replace h := ite_f c1 h
    refine AR.aload_n (pc := 7) (j := 0) dX9_beginDay_7 rfl rfl ?_
    refine AR.getf (pc := 8) (ci := 9) (j := 22) (d := 14 + 2) (v := .ref 14) (T := TX9) dX9_beginDay_8 rfl rfl rfl (by decide) (fun w hw => wsU_in (uw_X9 w hw)) (wsU_in fl_X9_49) rfl ?_
    refine AR.iload_n (pc := 11) (j := 1) dX9_beginDay_11 rfl rfl ?_
    refine AR.iconst (pc := 12) (v := 0) dX9_beginDay_12 (by decide) ?_
    obtain ⟨c4, h⟩ := gn_some h
    refine AR.iastore (pc := 13) dX9_beginDay_13 rfl c4 ?_
    refine AR.iinc (pc := 14) (j := 1) (v := (x1 + 1)) (L2 := [(1, .int (x1 + 1)), (0, .ref 0)]) dX9_beginDay_14 rfl rfl (by decide) rfl ?_
    refine AR.goto (pc := 17) (tgt := 2) dX9_beginDay_17 (by decide) ?_
    exact AR.pick [1, 0] rfl (hk2 ((x1 + 1), (uI σ 14 (x1 : Int32).toNatClampNeg 0)) r h)
theorem A9_beginDay_2 {l : Launch} (p : Int32 × HS) (r : HS) (h : f9_beginDay_2 p = some r) : AR l RX9 cX9_beginDay 2 none (wsU yX9_beginDay cX9_beginDay 2 none) rm9_beginDay SM 2 [(0, .ref 0), (1, .int (p.1))] [] p.2 (none, r) := by
  unfold f9_beginDay_2 at h
  exact wloop_run (body := fun k2 p => f9_beginDay_2_b k2 p.1 p.2) (Q := fun p r => AR l RX9 cX9_beginDay 2 none (wsU yX9_beginDay cX9_beginDay 2 none) rm9_beginDay SM 2 [(0, .ref 0), (1, .int (p.1))] [] p.2 (none, r)) (fun k2 hk2 p r h => A9_beginDay_2_b k2 p.1 hk2 p.2 r h) fuelN p r h
set_option maxHeartbeats 4000000 in
set_option maxRecDepth 100000 in
theorem A9_beginDay {l : Launch} (σ : HS) (r : HS) (h : f9_beginDay σ = some r) : MA l yX9_beginDay (wsU yX9_beginDay cX9_beginDay 2 none) rm9_beginDay SM [.ref 0] σ (none, r) := by
  refine MA.of (L := [(0, .ref 0)]) pn_X9_beginDay rfl (fun _ => Nat.le_of_ble_eq_true rfl) (fun _ => rfl) ?_
  unfold f9_beginDay at h
  refine AR.iconst (pc := 0) (v := 0) dX9_beginDay_0 (by decide) ?_
  refine AR.istore_n (pc := 1) (L2 := [(1, .int 0), (0, .ref 0)]) dX9_beginDay_1 rfl (by decide) rfl ?_
  exact AR.pick [1, 0] rfl (A9_beginDay_2 (0, σ) r h)
noncomputable def f9_goTurn_100 (x1 : Int32) (x2 : Int32) (x3 : Int32) (x4 : Int32) (x5 : Int32) (σ : HS) : Option (HS) :=
  bd (f9_leftBy x4 x2 x5 σ) fun r1 =>
  bd (f9_behind (r1.1) x3 (r1.2)) fun r2 =>
  if ((x1 + 1) : Int32) < 0 ∨ 7 ≤ ((x1 + 1) : Int32).toNatClampNeg then none else
  some (uI (r2.2) 13 ((x1 + 1) : Int32).toNatClampNeg (r2.1))
noncomputable def f9_goTurn_47_b (k47 : Int32 × HS → Option (HS)) (x1 : Int32) (x2 : Int32) (x3 : Int32) (x4 : Int32) (x5 : Int32) (x6 : Int32) (σ : HS) : Option (HS) :=
  if ((σ.1 0 1) : Int32) ≤ x6 then
    f9_goTurn_100 x1 x2 x3 x4 x5 σ
  else
    if (x6 : Int32) < 0 ∨ 5 ≤ (x6 : Int32).toNatClampNeg then none else
    bd (f9_worthFor x6 x4 x2 σ) fun r3 =>
    if (x6 : Int32) < 0 ∨ 5 ≤ (x6 : Int32).toNatClampNeg then none else
    k47 ((x6 + 1), (uI (r3.2) 14 (x6 : Int32).toNatClampNeg ((σ.1 14 (x6 : Int32).toNatClampNeg) + (r3.1))))
noncomputable def f9_goTurn_47 (x1 : Int32) (x2 : Int32) (x3 : Int32) (x4 : Int32) (x5 : Int32) (p : Int32 × HS) : Option (HS) :=
  wloop (fun k47 p => f9_goTurn_47_b k47 x1 x2 x3 x4 x5 p.1 p.2) fuelN p
noncomputable def f9_goTurn (x1 : Int32) (x2 : Int32) (x3 : Int32) (σ : HS) : Option (HS) :=
  bd (f9_speakerOf x1 σ) fun r1 =>
  if (x1 : Int32) < 0 ∨ 7 ≤ (x1 : Int32).toNatClampNeg then none else
  if (x1 : Int32) < 0 ∨ 6 ≤ (x1 : Int32).toNatClampNeg then none else
  bd (f9_isHeard (r1.1) x2 ((r1.2).1 13 (x1 : Int32).toNatClampNeg) (uI (r1.2) 12 (x1 : Int32).toNatClampNeg x2)) fun r4 =>
  if (r4.1 : Int32) = 0 then
    if (x2 : Int32) < 0 then
      f9_goTurn_100 x1 x2 x3 (r1.1) ((r1.2).1 13 (x1 : Int32).toNatClampNeg) (r4.2)
    else
      if 0 ≤ (((r4.2).1 0 24) : Int32) then
        f9_goTurn_100 x1 x2 x3 (r1.1) ((r1.2).1 13 (x1 : Int32).toNatClampNeg) (r4.2)
      else
        f9_goTurn_100 x1 x2 x3 (r1.1) ((r1.2).1 13 (x1 : Int32).toNatClampNeg) (uI (r4.2) 0 24 x1)
  else
    f9_goTurn_47 x1 x2 x3 (r1.1) ((r1.2).1 13 (x1 : Int32).toNatClampNeg) (0, (uI (r4.2) 0 23 (((r4.2).1 0 23) + 1)))
set_option maxHeartbeats 4000000 in
set_option maxRecDepth 100000 in
theorem A9_goTurn_100 {l : Launch} (x1 : Int32) (x2 : Int32) (x3 : Int32) (x4 : Int32) (x5 : Int32) (σ : HS) (r : HS) (h : f9_goTurn_100 x1 x2 x3 x4 x5 σ = some r) : AR l RX9 cX9_goTurn 7 none (wsU yX9_goTurn cX9_goTurn 7 none) rm9_goTurn SM 100 [(0, .ref 0), (1, .int x1), (2, .int x2), (3, .int x3), (4, .int x4), (5, .int x5)] [] σ (none, r) := by
  unfold f9_goTurn_100 at h
  refine AR.aload_n (pc := 100) (j := 0) dX9_goTurn_100 rfl rfl ?_
  refine AR.getf (pc := 101) (ci := 9) (j := 21) (d := 13 + 2) (v := .ref 13) (T := TX9) dX9_goTurn_101 rfl rfl rfl (by decide) (fun w hw => wsU_in (uw_X9 w hw)) (wsU_in fl_X9_46) rfl ?_
  refine AR.iload_n (pc := 104) (j := 1) dX9_goTurn_104 rfl rfl ?_
  refine AR.iconst (pc := 105) (v := 1) dX9_goTurn_105 (by decide) ?_
  refine AR.iadd (pc := 106) dX9_goTurn_106 ?_
  refine AR.aload_n (pc := 107) (j := 0) dX9_goTurn_107 rfl rfl ?_
  refine AR.aload_n (pc := 108) (j := 0) dX9_goTurn_108 rfl rfl ?_
  refine AR.iload (pc := 109) (j := 4) dX9_goTurn_109 rfl ?_
  refine AR.iload_n (pc := 111) (j := 2) dX9_goTurn_111 rfl rfl ?_
  refine AR.iload (pc := 112) (j := 5) dX9_goTurn_112 rfl ?_
  obtain ⟨r1, h1, h⟩ := bd_some h
  refine AR.callV (pc := 114) (As := [.int x4, .int x2, .int x5]) (st := [.ref 0, .int (x1 + 1), .ref 13]) (ci := 9) dX9_goTurn_114 ⟨cd_X9_leftBy, im_X9_leftBy, se_X9_leftBy, ini_X9⟩ ml_X9_209 (A9_leftBy x4 x2 x5 σ _ h1) ⟨rfl, pd_X9_leftBy⟩ ⟨Nat.le_of_ble_eq_true rfl, Nat.le_of_ble_eq_true rfl⟩ ⟨rfl, rfl⟩ rfl rfl rfl (Nat.le_of_ble_eq_true rfl) ?_
  refine AR.iload_n (pc := 117) (j := 3) dX9_goTurn_117 rfl rfl ?_
  obtain ⟨r2, h2, h⟩ := bd_some h
  refine AR.callV (pc := 118) (As := [.int (r1.1), .int x3]) (st := [.int (x1 + 1), .ref 13]) (ci := 9) dX9_goTurn_118 ⟨cd_X9_behind, im_X9_behind, se_X9_behind, ini_X9⟩ ml_X9_212 (A9_behind (r1.1) x3 (r1.2) _ h2) ⟨rfl, pd_X9_behind⟩ ⟨Nat.le_of_ble_eq_true rfl, Nat.le_of_ble_eq_true rfl⟩ ⟨rfl, rfl⟩ rfl rfl rfl (Nat.le_of_ble_eq_true rfl) ?_
  obtain ⟨c3, h⟩ := gn_some h
  refine AR.iastore (pc := 121) dX9_goTurn_121 rfl c3 ?_
  exact AR.vret (pc := 122) rfl dX9_goTurn_122 (hrV (Option.some.inj h))
set_option maxHeartbeats 4000000 in
set_option maxRecDepth 100000 in
theorem A9_goTurn_47_b {l : Launch} (k47 : Int32 × HS → Option (HS)) (x1 : Int32) (x2 : Int32) (x3 : Int32) (x4 : Int32) (x5 : Int32) (x6 : Int32) (hk47 : ∀ (p : Int32 × HS) (r : HS), k47 p = some r → AR l RX9 cX9_goTurn 7 none (wsU yX9_goTurn cX9_goTurn 7 none) rm9_goTurn SM 47 [(0, .ref 0), (1, .int x1), (2, .int x2), (3, .int x3), (4, .int x4), (5, .int x5), (6, .int (p.1))] [] p.2 (none, r)) (σ : HS) (r : HS) (h : f9_goTurn_47_b k47 x1 x2 x3 x4 x5 x6 σ = some r) : AR l RX9 cX9_goTurn 7 none (wsU yX9_goTurn cX9_goTurn 7 none) rm9_goTurn SM 47 [(0, .ref 0), (1, .int x1), (2, .int x2), (3, .int x3), (4, .int x4), (5, .int x5), (6, .int x6)] [] σ (none, r) := by
  unfold f9_goTurn_47_b at h
  refine AR.iload (pc := 47) (j := 6) dX9_goTurn_47 rfl ?_
  refine AR.aload_n (pc := 49) (j := 0) dX9_goTurn_49 rfl rfl ?_
  refine AR.getf (pc := 50) (ci := 9) (j := 1) (d := 0) (v := .int (σ.1 0 1)) (T := TX9) dX9_goTurn_50 rfl rfl rfl (by decide) (fun w hw => wsU_in (uw_X9 w hw)) (wsU_in fl_X9_113) rfl ?_
  refine AR.icmp_ge (pc := 53) (tgt := 81) dX9_goTurn_53 (by decide) (fun c1 => ?_) (fun c1 => ?_)
  · replace h := ite_t c1 h
    refine AR.goto (pc := 81) (tgt := 100) dX9_goTurn_81 (by decide) ?_
    exact AR.pick [0, 1, 2, 3, 4, 5] rfl (A9_goTurn_100 x1 x2 x3 x4 x5 σ r h)
  · replace h := ite_f c1 h
    refine AR.aload_n (pc := 56) (j := 0) dX9_goTurn_56 rfl rfl ?_
    refine AR.getf (pc := 57) (ci := 9) (j := 22) (d := 14 + 2) (v := .ref 14) (T := TX9) dX9_goTurn_57 rfl rfl rfl (by decide) (fun w hw => wsU_in (uw_X9 w hw)) (wsU_in fl_X9_49) rfl ?_
    refine AR.iload (pc := 60) (j := 6) dX9_goTurn_60 rfl ?_
    refine AR.dup2 (pc := 62) dX9_goTurn_62 rfl rfl ?_
    obtain ⟨c2, h⟩ := gn_some h
    refine AR.iaload (pc := 63) dX9_goTurn_63 rfl c2 ?_
    refine AR.aload_n (pc := 64) (j := 0) dX9_goTurn_64 rfl rfl ?_
    refine AR.iload (pc := 65) (j := 6) dX9_goTurn_65 rfl ?_
    refine AR.iload (pc := 67) (j := 4) dX9_goTurn_67 rfl ?_
    refine AR.iload_n (pc := 69) (j := 2) dX9_goTurn_69 rfl rfl ?_
    obtain ⟨r3, h3, h⟩ := bd_some h
    refine AR.callV (pc := 70) (As := [.int x6, .int x4, .int x2]) (st := [.int (σ.1 14 (x6 : Int32).toNatClampNeg), .int x6, .ref 14]) (ci := 9) dX9_goTurn_70 ⟨cd_X9_worthFor, im_X9_worthFor, se_X9_worthFor, ini_X9⟩ ml_X9_206 (A9_worthFor x6 x4 x2 σ _ h3) ⟨rfl, pd_X9_worthFor⟩ ⟨Nat.le_of_ble_eq_true rfl, Nat.le_of_ble_eq_true rfl⟩ ⟨rfl, rfl⟩ rfl rfl rfl (Nat.le_of_ble_eq_true rfl) ?_
    refine AR.iadd (pc := 73) dX9_goTurn_73 ?_
    obtain ⟨c4, h⟩ := gn_some h
    refine AR.iastore (pc := 74) dX9_goTurn_74 rfl c4 ?_
    refine AR.iinc (pc := 75) (j := 6) (v := (x6 + 1)) (L2 := [(6, .int (x6 + 1)), (0, .ref 0), (1, .int x1), (2, .int x2), (3, .int x3), (4, .int x4), (5, .int x5)]) dX9_goTurn_75 rfl rfl (by decide) rfl ?_
    refine AR.goto (pc := 78) (tgt := 47) dX9_goTurn_78 (by decide) ?_
    exact AR.pick [1, 2, 3, 4, 5, 6, 0] rfl (hk47 ((x6 + 1), (uI (r3.2) 14 (x6 : Int32).toNatClampNeg ((σ.1 14 (x6 : Int32).toNatClampNeg) + (r3.1)))) r h)
theorem A9_goTurn_47 {l : Launch} (x1 : Int32) (x2 : Int32) (x3 : Int32) (x4 : Int32) (x5 : Int32) (p : Int32 × HS) (r : HS) (h : f9_goTurn_47 x1 x2 x3 x4 x5 p = some r) : AR l RX9 cX9_goTurn 7 none (wsU yX9_goTurn cX9_goTurn 7 none) rm9_goTurn SM 47 [(0, .ref 0), (1, .int x1), (2, .int x2), (3, .int x3), (4, .int x4), (5, .int x5), (6, .int (p.1))] [] p.2 (none, r) := by
  unfold f9_goTurn_47 at h
  exact wloop_run (body := fun k47 p => f9_goTurn_47_b k47 x1 x2 x3 x4 x5 p.1 p.2) (Q := fun p r => AR l RX9 cX9_goTurn 7 none (wsU yX9_goTurn cX9_goTurn 7 none) rm9_goTurn SM 47 [(0, .ref 0), (1, .int x1), (2, .int x2), (3, .int x3), (4, .int x4), (5, .int x5), (6, .int (p.1))] [] p.2 (none, r)) (fun k47 hk47 p r h => A9_goTurn_47_b k47 x1 x2 x3 x4 x5 p.1 hk47 p.2 r h) fuelN p r h
set_option maxHeartbeats 4000000 in
set_option maxRecDepth 100000 in
theorem A9_goTurn {l : Launch} (x1 : Int32) (x2 : Int32) (x3 : Int32) (σ : HS) (r : HS) (h : f9_goTurn x1 x2 x3 σ = some r) : MA l yX9_goTurn (wsU yX9_goTurn cX9_goTurn 7 none) rm9_goTurn SM [.ref 0, .int x1, .int x2, .int x3] σ (none, r) := by
  refine MA.of (L := [(0, .ref 0), (1, .int x1), (2, .int x2), (3, .int x3)]) pn_X9_goTurn rfl (fun _ => Nat.le_of_ble_eq_true rfl) (fun _ => rfl) ?_
  unfold f9_goTurn at h
  refine AR.aload_n (pc := 0) (j := 0) dX9_goTurn_0 rfl rfl ?_
  refine AR.iload_n (pc := 1) (j := 1) dX9_goTurn_1 rfl rfl ?_
  obtain ⟨r1, h1, h⟩ := bd_some h
  refine AR.callV (pc := 2) (As := [.int x1]) (st := []) (ci := 9) dX9_goTurn_2 ⟨cd_X9_speakerOf, im_X9_speakerOf, se_X9_speakerOf, ini_X9⟩ ml_X9_200 (A9_speakerOf x1 σ _ h1) ⟨rfl, pd_X9_speakerOf⟩ ⟨Nat.le_of_ble_eq_true rfl, Nat.le_of_ble_eq_true rfl⟩ ⟨rfl, rfl⟩ rfl rfl rfl (Nat.le_of_ble_eq_true rfl) ?_
  refine AR.istore (pc := 5) (L2 := [(4, .int (r1.1)), (0, .ref 0), (1, .int x1), (2, .int x2), (3, .int x3)]) dX9_goTurn_5 (by decide) rfl ?_
  refine AR.aload_n (pc := 7) (j := 1) dX9_goTurn_7 rfl rfl ?_
  refine AR.getf (pc := 8) (ci := 9) (j := 21) (d := 13 + 2) (v := .ref 13) (T := TX9) dX9_goTurn_8 rfl rfl rfl (by decide) (fun w hw => wsU_in (uw_X9 w hw)) (wsU_in fl_X9_46) rfl ?_
  refine AR.iload_n (pc := 11) (j := 2) dX9_goTurn_11 rfl rfl ?_
  obtain ⟨c2, h⟩ := gn_some h
  refine AR.iaload (pc := 12) dX9_goTurn_12 rfl c2 ?_
  refine AR.istore (pc := 13) (L2 := [(5, .int ((r1.2).1 13 (x1 : Int32).toNatClampNeg)), (4, .int (r1.1)), (0, .ref 0), (1, .int x1), (2, .int x2), (3, .int x3)]) dX9_goTurn_13 (by decide) rfl ?_
  refine AR.aload_n (pc := 15) (j := 2) dX9_goTurn_15 rfl rfl ?_
  refine AR.getf (pc := 16) (ci := 9) (j := 20) (d := 12 + 2) (v := .ref 12) (T := TX9) dX9_goTurn_16 rfl rfl rfl (by decide) (fun w hw => wsU_in (uw_X9 w hw)) (wsU_in fl_X9_43) rfl ?_
  refine AR.iload_n (pc := 19) (j := 3) dX9_goTurn_19 rfl rfl ?_
  refine AR.iload_n (pc := 20) (j := 4) dX9_goTurn_20 rfl rfl ?_
  obtain ⟨c3, h⟩ := gn_some h
  refine AR.iastore (pc := 21) dX9_goTurn_21 rfl c3 ?_
  refine AR.aload_n (pc := 22) (j := 2) dX9_goTurn_22 rfl rfl ?_
  refine AR.iload (pc := 23) (j := 1) dX9_goTurn_23 rfl ?_
  refine AR.iload_n (pc := 25) (j := 4) dX9_goTurn_25 rfl rfl ?_
  refine AR.iload (pc := 26) (j := 0) dX9_goTurn_26 rfl ?_
  obtain ⟨r4, h4, h⟩ := bd_some h
  refine AR.callV (pc := 28) (As := [.int (r1.1), .int x2, .int ((r1.2).1 13 (x1 : Int32).toNatClampNeg)]) (st := []) (ci := 9) dX9_goTurn_28 ⟨cd_X9_isHeard, im_X9_isHeard, se_X9_isHeard, ini_X9⟩ ml_X9_203 (A9_isHeard (r1.1) x2 ((r1.2).1 13 (x1 : Int32).toNatClampNeg) (uI (r1.2) 12 (x1 : Int32).toNatClampNeg x2) _ h4) ⟨rfl, pd_X9_isHeard⟩ ⟨Nat.le_of_ble_eq_true rfl, Nat.le_of_ble_eq_true rfl⟩ ⟨rfl, rfl⟩ rfl rfl rfl (Nat.le_of_ble_eq_true rfl) ?_
  refine AR.if_eq (pc := 31) (tgt := 84) dX9_goTurn_31 (by decide) (fun c5 => ?_) (fun c5 => ?_)
  · replace h := ite_t c5 h
    refine AR.iload_n (pc := 84) (j := 4) dX9_goTurn_84 rfl rfl ?_
    refine AR.if_lt (pc := 85) (tgt := 100) dX9_goTurn_85 (by decide) (fun c6 => ?_) (fun c6 => ?_)
    · replace h := ite_t c6 h
      exact AR.pick [2, 3, 4, 5, 1, 0] rfl (A9_goTurn_100 x1 x2 x3 (r1.1) ((r1.2).1 13 (x1 : Int32).toNatClampNeg) (r4.2) r h)
    · replace h := ite_f c6 h
      refine AR.aload_n (pc := 88) (j := 2) dX9_goTurn_88 rfl rfl ?_
      refine AR.getf (pc := 89) (ci := 9) (j := 24) (d := 0) (v := .int ((r4.2).1 0 24)) (T := TX9) dX9_goTurn_89 rfl rfl rfl (by decide) (fun w hw => wsU_in (uw_X9 w hw)) (wsU_in fl_X9_197) rfl ?_
      refine AR.if_ge (pc := 92) (tgt := 100) dX9_goTurn_92 (by decide) (fun c7 => ?_) (fun c7 => ?_)
      · replace h := ite_t c7 h
        exact AR.pick [2, 3, 4, 5, 1, 0] rfl (A9_goTurn_100 x1 x2 x3 (r1.1) ((r1.2).1 13 (x1 : Int32).toNatClampNeg) (r4.2) r h)
      · replace h := ite_f c7 h
        refine AR.aload_n (pc := 95) (j := 2) dX9_goTurn_95 rfl rfl ?_
        refine AR.iload_n (pc := 96) (j := 3) dX9_goTurn_96 rfl rfl ?_
        refine AR.putI (pc := 97) (ci := 9) (j := 24) (T := TX9) (ty0 := tyX9) (ty := .int) dX9_goTurn_97 rfl rfl rfl (by decide) (fun w hw => wsU_in (uw_X9 w hw)) tyX9_ok nmX9 (wsU_in fl_X9_197) rfl (by decide +kernel) rfl rfl ?_
        exact AR.pick [2, 3, 4, 5, 1, 0] rfl (A9_goTurn_100 x1 x2 x3 (r1.1) ((r1.2).1 13 (x1 : Int32).toNatClampNeg) (uI (r4.2) 0 24 x1) r h)
  · replace h := ite_f c5 h
    refine AR.aload_n (pc := 34) (j := 2) dX9_goTurn_34 rfl rfl ?_
    refine AR.dup (pc := 35) dX9_goTurn_35 rfl ?_
    refine AR.getf (pc := 36) (ci := 9) (j := 23) (d := 0) (v := .int ((r4.2).1 0 23)) (T := TX9) dX9_goTurn_36 rfl rfl rfl (by decide) (fun w hw => wsU_in (uw_X9 w hw)) (wsU_in fl_X9_194) rfl ?_
    refine AR.iconst (pc := 39) (v := 1) dX9_goTurn_39 (by decide) ?_
    refine AR.iadd (pc := 40) dX9_goTurn_40 ?_
    refine AR.putI (pc := 41) (ci := 9) (j := 23) (T := TX9) (ty0 := tyX9) (ty := .int) dX9_goTurn_41 rfl rfl rfl (by decide) (fun w hw => wsU_in (uw_X9 w hw)) tyX9_ok nmX9 (wsU_in fl_X9_194) rfl (by decide +kernel) rfl rfl ?_
    refine AR.iconst (pc := 44) (v := 0) dX9_goTurn_44 (by decide) ?_
    refine AR.istore (pc := 45) (L2 := [(6, .int 0), (5, .int ((r1.2).1 13 (x1 : Int32).toNatClampNeg)), (4, .int (r1.1)), (0, .ref 0), (1, .int x1), (2, .int x2), (3, .int x3)]) dX9_goTurn_45 (by decide) rfl ?_
    exact AR.pick [3, 4, 5, 6, 2, 1, 0] rfl (A9_goTurn_47 x1 x2 x3 (r1.1) ((r1.2).1 13 (x1 : Int32).toNatClampNeg) (0, (uI (r4.2) 0 23 (((r4.2).1 0 23) + 1))) r h)
noncomputable def f9_areWords_56 (k5 : Int32 × Int32 × HS → Option (Int32 × HS)) (x1 : Int32) (x2 : Int32) (x4 : Int32) (z0 : Int32) (σ : HS) : Option (Int32 × HS) :=
  k5 (z0, (x4 + 1), σ)
noncomputable def f9_areWords_55 (k5 : Int32 × Int32 × HS → Option (Int32 × HS)) (x1 : Int32) (x2 : Int32) (x4 : Int32) (σ : HS) : Option (Int32 × HS) :=
  f9_areWords_56 k5 x1 x2 x4 0 σ
noncomputable def f9_areWords_51 (k5 : Int32 × Int32 × HS → Option (Int32 × HS)) (x1 : Int32) (x2 : Int32) (x4 : Int32) (σ : HS) : Option (Int32 × HS) :=
  f9_areWords_56 k5 x1 x2 x4 1 σ
noncomputable def f9_areWords_5_b (k5 : Int32 × Int32 × HS → Option (Int32 × HS)) (x1 : Int32) (x2 : Int32) (x3 : Int32) (x4 : Int32) (σ : HS) : Option (Int32 × HS) :=
  if (x2 : Int32) ≤ x4 then
    if (x3 : Int32) = 0 ∨ (x3 : Int32) = 1 then some (x3, σ) else none
  else
    if (x3 : Int32) = 0 then
      f9_areWords_55 k5 x1 x2 x4 σ
    else
      if ((x1 + x4) : Int32) < 0 ∨ 400 ≤ ((x1 + x4) : Int32).toNatClampNeg then none else
      if ((σ.1 23 ((x1 + x4) : Int32).toNatClampNeg) : Int32) = (-9) then
        f9_areWords_51 k5 x1 x2 x4 σ
      else
        bd (f9_speakerOf x4 σ) fun r6 =>
        if ((x1 + x4) : Int32) < 0 ∨ 400 ≤ ((x1 + x4) : Int32).toNatClampNeg then none else
        bd (f9_noWord (r6.1) ((r6.2).1 23 ((x1 + x4) : Int32).toNatClampNeg) (r6.2)) fun r8 =>
        if (r8.1 : Int32) = 0 then
          f9_areWords_51 k5 x1 x2 x4 (r8.2)
        else
          f9_areWords_55 k5 x1 x2 x4 (r8.2)
noncomputable def f9_areWords_5 (x1 : Int32) (x2 : Int32) (p : Int32 × Int32 × HS) : Option (Int32 × HS) :=
  wloop (fun k5 p => f9_areWords_5_b k5 x1 x2 p.1 p.2.1 p.2.2) fuelN p
noncomputable def f9_areWords (x1 : Int32) (x2 : Int32) (σ : HS) : Option (Int32 × HS) :=
  f9_areWords_5 x1 x2 (1, 0, σ)
set_option maxHeartbeats 4000000 in
set_option maxRecDepth 100000 in
theorem A9_areWords_56 {l : Launch} (k5 : Int32 × Int32 × HS → Option (Int32 × HS)) (x1 : Int32) (x2 : Int32) (x4 : Int32) (z0 : Int32) (hk5 : ∀ (p : Int32 × Int32 × HS) (r : Int32 × HS), k5 p = some r → AR l RX9 cX9_areWords 5 (some .boolean) (wsU yX9_areWords cX9_areWords 5 (some .boolean)) rm9_areWords SM 5 [(0, .ref 0), (1, .int x1), (2, .int x2), (3, .int (p.1)), (4, .int (p.2.1))] [] p.2.2 (some (.int r.1), r.2)) (σ : HS) (r : Int32 × HS) (h : f9_areWords_56 k5 x1 x2 x4 z0 σ = some r) : AR l RX9 cX9_areWords 5 (some .boolean) (wsU yX9_areWords cX9_areWords 5 (some .boolean)) rm9_areWords SM 56 [(0, .ref 0), (1, .int x1), (2, .int x2), (4, .int x4)] [.int z0] σ (some (.int r.1), r.2) := by
  unfold f9_areWords_56 at h
  refine AR.istore_n (pc := 56) (L2 := [(3, .int z0), (0, .ref 0), (1, .int x1), (2, .int x2), (4, .int x4)]) dX9_areWords_56 rfl (by decide) rfl ?_
  refine AR.iinc (pc := 57) (j := 4) (v := (x4 + 1)) (L2 := [(4, .int (x4 + 1)), (3, .int z0), (0, .ref 0), (1, .int x1), (2, .int x2)]) dX9_areWords_57 rfl rfl (by decide) rfl ?_
  refine AR.goto (pc := 60) (tgt := 5) dX9_areWords_60 (by decide) ?_
  exact AR.pick [2, 3, 4, 1, 0] rfl (hk5 (z0, (x4 + 1), σ) r h)
set_option maxHeartbeats 4000000 in
set_option maxRecDepth 100000 in
theorem A9_areWords_55 {l : Launch} (k5 : Int32 × Int32 × HS → Option (Int32 × HS)) (x1 : Int32) (x2 : Int32) (x4 : Int32) (hk5 : ∀ (p : Int32 × Int32 × HS) (r : Int32 × HS), k5 p = some r → AR l RX9 cX9_areWords 5 (some .boolean) (wsU yX9_areWords cX9_areWords 5 (some .boolean)) rm9_areWords SM 5 [(0, .ref 0), (1, .int x1), (2, .int x2), (3, .int (p.1)), (4, .int (p.2.1))] [] p.2.2 (some (.int r.1), r.2)) (σ : HS) (r : Int32 × HS) (h : f9_areWords_55 k5 x1 x2 x4 σ = some r) : AR l RX9 cX9_areWords 5 (some .boolean) (wsU yX9_areWords cX9_areWords 5 (some .boolean)) rm9_areWords SM 55 [(0, .ref 0), (1, .int x1), (2, .int x2), (4, .int x4)] [] σ (some (.int r.1), r.2) := by
  unfold f9_areWords_55 at h
  refine AR.iconst (pc := 55) (v := 0) dX9_areWords_55 (by decide) ?_
  exact AR.pick [0, 1, 2, 3] rfl (A9_areWords_56 k5 x1 x2 x4 0 hk5 σ r h)
set_option maxHeartbeats 4000000 in
set_option maxRecDepth 100000 in
theorem A9_areWords_51 {l : Launch} (k5 : Int32 × Int32 × HS → Option (Int32 × HS)) (x1 : Int32) (x2 : Int32) (x4 : Int32) (hk5 : ∀ (p : Int32 × Int32 × HS) (r : Int32 × HS), k5 p = some r → AR l RX9 cX9_areWords 5 (some .boolean) (wsU yX9_areWords cX9_areWords 5 (some .boolean)) rm9_areWords SM 5 [(0, .ref 0), (1, .int x1), (2, .int x2), (3, .int (p.1)), (4, .int (p.2.1))] [] p.2.2 (some (.int r.1), r.2)) (σ : HS) (r : Int32 × HS) (h : f9_areWords_51 k5 x1 x2 x4 σ = some r) : AR l RX9 cX9_areWords 5 (some .boolean) (wsU yX9_areWords cX9_areWords 5 (some .boolean)) rm9_areWords SM 51 [(0, .ref 0), (1, .int x1), (2, .int x2), (4, .int x4)] [] σ (some (.int r.1), r.2) := by
  unfold f9_areWords_51 at h
  refine AR.iconst (pc := 51) (v := 1) dX9_areWords_51 (by decide) ?_
  refine AR.goto (pc := 52) (tgt := 56) dX9_areWords_52 (by decide) ?_
  exact AR.pick [0, 1, 2, 3] rfl (A9_areWords_56 k5 x1 x2 x4 1 hk5 σ r h)
set_option maxHeartbeats 4000000 in
set_option maxRecDepth 100000 in
theorem A9_areWords_5_b {l : Launch} (k5 : Int32 × Int32 × HS → Option (Int32 × HS)) (x1 : Int32) (x2 : Int32) (x3 : Int32) (x4 : Int32) (hk5 : ∀ (p : Int32 × Int32 × HS) (r : Int32 × HS), k5 p = some r → AR l RX9 cX9_areWords 5 (some .boolean) (wsU yX9_areWords cX9_areWords 5 (some .boolean)) rm9_areWords SM 5 [(0, .ref 0), (1, .int x1), (2, .int x2), (3, .int (p.1)), (4, .int (p.2.1))] [] p.2.2 (some (.int r.1), r.2)) (σ : HS) (r : Int32 × HS) (h : f9_areWords_5_b k5 x1 x2 x3 x4 σ = some r) : AR l RX9 cX9_areWords 5 (some .boolean) (wsU yX9_areWords cX9_areWords 5 (some .boolean)) rm9_areWords SM 5 [(0, .ref 0), (1, .int x1), (2, .int x2), (3, .int x3), (4, .int x4)] [] σ (some (.int r.1), r.2) := by
  unfold f9_areWords_5_b at h
  refine AR.iload (pc := 5) (j := 4) dX9_areWords_5 rfl ?_
  refine AR.iload_n (pc := 7) (j := 2) dX9_areWords_7 rfl rfl ?_
  refine AR.icmp_ge (pc := 8) (tgt := 63) dX9_areWords_8 (by decide) (fun c1 => ?_) (fun c1 => ?_)
  · replace h := ite_t c1 h
    refine AR.iload_n (pc := 63) (j := 3) dX9_areWords_63 rfl rfl ?_
    obtain ⟨c2, h⟩ := gp_some h
    exact AR.zret (pc := 64) rfl c2 dX9_areWords_64 (hrI (Option.some.inj h))
  · replace h := ite_f c1 h
    refine AR.iload_n (pc := 11) (j := 3) dX9_areWords_11 rfl rfl ?_
    refine AR.if_eq (pc := 12) (tgt := 55) dX9_areWords_12 (by decide) (fun c3 => ?_) (fun c3 => ?_)
    · replace h := ite_t c3 h
      exact AR.pick [0, 1, 2, 4] rfl (A9_areWords_55 k5 x1 x2 x4 hk5 σ r h)
    · replace h := ite_f c3 h
      refine AR.aload_n (pc := 15) (j := 0) dX9_areWords_15 rfl rfl ?_
      refine AR.getf (pc := 16) (ci := 9) (j := 34) (d := 23 + 2) (v := .ref 23) (T := TX9) dX9_areWords_16 rfl rfl rfl (by decide) (fun w hw => wsU_in (uw_X9 w hw)) (wsU_in fl_X9_76) rfl ?_
      refine AR.iload_n (pc := 19) (j := 1) dX9_areWords_19 rfl rfl ?_
      refine AR.iload (pc := 20) (j := 4) dX9_areWords_20 rfl ?_
      refine AR.iadd (pc := 22) dX9_areWords_22 ?_
      obtain ⟨c4, h⟩ := gn_some h
      refine AR.iaload (pc := 23) dX9_areWords_23 rfl c4 ?_
      refine AR.bipush (pc := 24) (v := (-9)) dX9_areWords_24 (by decide) ?_
      refine AR.icmp_eq (pc := 26) (tgt := 51) dX9_areWords_26 (by decide) (fun c5 => ?_) (fun c5 => ?_)
      · replace h := ite_t c5 h
        exact AR.pick [0, 1, 2, 4] rfl (A9_areWords_51 k5 x1 x2 x4 hk5 σ r h)
      · replace h := ite_f c5 h
        refine AR.aload_n (pc := 29) (j := 0) dX9_areWords_29 rfl rfl ?_
        refine AR.aload_n (pc := 30) (j := 0) dX9_areWords_30 rfl rfl ?_
        refine AR.iload (pc := 31) (j := 4) dX9_areWords_31 rfl ?_
        obtain ⟨r6, h6, h⟩ := bd_some h
        refine AR.callV (pc := 33) (As := [.int x4]) (st := [.ref 0]) (ci := 9) dX9_areWords_33 ⟨cd_X9_speakerOf, im_X9_speakerOf, se_X9_speakerOf, ini_X9⟩ ml_X9_200 (A9_speakerOf x4 σ _ h6) ⟨rfl, pd_X9_speakerOf⟩ ⟨Nat.le_of_ble_eq_true rfl, Nat.le_of_ble_eq_true rfl⟩ ⟨rfl, rfl⟩ rfl rfl rfl (Nat.le_of_ble_eq_true rfl) ?_
        refine AR.aload_n (pc := 36) (j := 0) dX9_areWords_36 rfl rfl ?_
        refine AR.getf (pc := 37) (ci := 9) (j := 34) (d := 23 + 2) (v := .ref 23) (T := TX9) dX9_areWords_37 rfl rfl rfl (by decide) (fun w hw => wsU_in (uw_X9 w hw)) (wsU_in fl_X9_76) rfl ?_
        refine AR.iload_n (pc := 40) (j := 1) dX9_areWords_40 rfl rfl ?_
        refine AR.iload (pc := 41) (j := 4) dX9_areWords_41 rfl ?_
        refine AR.iadd (pc := 43) dX9_areWords_43 ?_
        obtain ⟨c7, h⟩ := gn_some h
        refine AR.iaload (pc := 44) dX9_areWords_44 rfl c7 ?_
        obtain ⟨r8, h8, h⟩ := bd_some h
        refine AR.callV (pc := 45) (As := [.int (r6.1), .int ((r6.2).1 23 ((x1 + x4) : Int32).toNatClampNeg)]) (st := []) (ci := 9) dX9_areWords_45 ⟨cd_X9_noWord, im_X9_noWord, se_X9_noWord, ini_X9⟩ ml_X9_182 (A9_noWord (r6.1) ((r6.2).1 23 ((x1 + x4) : Int32).toNatClampNeg) (r6.2) _ h8) ⟨rfl, pd_X9_noWord⟩ ⟨Nat.le_of_ble_eq_true rfl, Nat.le_of_ble_eq_true rfl⟩ ⟨rfl, rfl⟩ rfl rfl rfl (Nat.le_of_ble_eq_true rfl) ?_
        refine AR.if_ne (pc := 48) (tgt := 55) dX9_areWords_48 (by decide) (fun c9 => ?_) (fun c9 => ?_)
        · replace h := ite_f c9 h
          exact AR.pick [0, 1, 2, 4] rfl (A9_areWords_55 k5 x1 x2 x4 hk5 (r8.2) r h)
        · replace h := ite_t c9 h
          exact AR.pick [0, 1, 2, 4] rfl (A9_areWords_51 k5 x1 x2 x4 hk5 (r8.2) r h)
theorem A9_areWords_5 {l : Launch} (x1 : Int32) (x2 : Int32) (p : Int32 × Int32 × HS) (r : Int32 × HS) (h : f9_areWords_5 x1 x2 p = some r) : AR l RX9 cX9_areWords 5 (some .boolean) (wsU yX9_areWords cX9_areWords 5 (some .boolean)) rm9_areWords SM 5 [(0, .ref 0), (1, .int x1), (2, .int x2), (3, .int (p.1)), (4, .int (p.2.1))] [] p.2.2 (some (.int r.1), r.2) := by
  unfold f9_areWords_5 at h
  exact wloop_run (body := fun k5 p => f9_areWords_5_b k5 x1 x2 p.1 p.2.1 p.2.2) (Q := fun p r => AR l RX9 cX9_areWords 5 (some .boolean) (wsU yX9_areWords cX9_areWords 5 (some .boolean)) rm9_areWords SM 5 [(0, .ref 0), (1, .int x1), (2, .int x2), (3, .int (p.1)), (4, .int (p.2.1))] [] p.2.2 (some (.int r.1), r.2)) (fun k5 hk5 p r h => A9_areWords_5_b k5 x1 x2 p.1 p.2.1 hk5 p.2.2 r h) fuelN p r h
set_option maxHeartbeats 4000000 in
set_option maxRecDepth 100000 in
theorem A9_areWords {l : Launch} (x1 : Int32) (x2 : Int32) (σ : HS) (r : Int32 × HS) (h : f9_areWords x1 x2 σ = some r) : MA l yX9_areWords (wsU yX9_areWords cX9_areWords 5 (some .boolean)) rm9_areWords SM [.ref 0, .int x1, .int x2] σ (some (.int r.1), r.2) := by
  refine MA.of (L := [(0, .ref 0), (1, .int x1), (2, .int x2)]) pn_X9_areWords rfl (fun _ => Nat.le_of_ble_eq_true rfl) (fun _ => rfl) ?_
  unfold f9_areWords at h
  refine AR.iconst (pc := 0) (v := 1) dX9_areWords_0 (by decide) ?_
  refine AR.istore_n (pc := 1) (L2 := [(3, .int 1), (0, .ref 0), (1, .int x1), (2, .int x2)]) dX9_areWords_1 rfl (by decide) rfl ?_
  refine AR.iconst (pc := 2) (v := 0) dX9_areWords_2 (by decide) ?_
  refine AR.istore (pc := 3) (L2 := [(4, .int 0), (3, .int 1), (0, .ref 0), (1, .int x1), (2, .int x2)]) dX9_areWords_3 (by decide) rfl ?_
  exact AR.pick [2, 3, 4, 1, 0] rfl (A9_areWords_5 x1 x2 (1, 0, σ) r h)
noncomputable def f9_goTold_82_b (k82 : Int32 × HS → Option (Int32 × HS)) (x4 : Int32) (x6 : Int32) (x7 : Int32) (σ : HS) : Option (Int32 × HS) :=
  if (x4 : Int32) ≤ x7 then
    bd (f9_refused 0 σ) fun r2 =>
    some (r2.1, r2.2)
  else
    if ((x6 + x7) : Int32) < 0 ∨ 400 ≤ ((x6 + x7) : Int32).toNatClampNeg then none else
    bd (f9_goTurn x7 (σ.1 23 ((x6 + x7) : Int32).toNatClampNeg) (σ.1 0 3) σ) fun r4 =>
    k82 ((x7 + 1), r4)
noncomputable def f9_goTold_82 (x4 : Int32) (x6 : Int32) (p : Int32 × HS) : Option (Int32 × HS) :=
  wloop (fun k82 p => f9_goTold_82_b k82 x4 x6 p.1 p.2) fuelN p
noncomputable def f9_goTold (x1 : Int32) (x2 : Int32) (x3 : Int32) (x4 : Int32) (σ : HS) : Option (Int32 × HS) :=
  bd (f9_barred x1 x2 x3 ((x4 : Int32).toInt64) σ) fun r1 =>
  if 0 ≤ (r1.1 : Int32) then
    if (((r1.2).1 0 1) : Int32) = 0 then
      bd (f9_refused (-3) (r1.2)) fun r11 =>
      some (r11.1, r11.2)
    else
      bd (f9_turnsNow (r1.2)) fun r4 =>
      if (x4 : Int32) ≤ (r4.1) then
        bd (f9_areWords ((100 * x1) + x3) x4 (r4.2)) fun r6 =>
        if (r6.1 : Int32) = 0 then
          bd (f9_refused (-1) (r6.2)) fun r9 =>
          some (r9.1, r9.2)
        else
          bd (f9_beginDay (r6.2)) fun r8 =>
          f9_goTold_82 x4 ((100 * x1) + x3) (0, r8)
      else
        bd (f9_refused (-2) (r4.2)) fun r10 =>
        some (r10.1, r10.2)
  else
    some (r1.1, r1.2)
set_option maxHeartbeats 4000000 in
set_option maxRecDepth 100000 in
theorem A9_goTold_82_b {l : Launch} (k82 : Int32 × HS → Option (Int32 × HS)) (x4 : Int32) (x6 : Int32) (x7 : Int32) (hk82 : ∀ (p : Int32 × HS) (r : Int32 × HS), k82 p = some r → AR l RX9 cX9_goTold 8 (some .int) (wsU yX9_goTold cX9_goTold 8 (some .int)) rm9_goTold SM 82 [(0, .ref 0), (4, .int x4), (6, .int x6), (7, .int (p.1))] [] p.2 (some (.int r.1), r.2)) (σ : HS) (r : Int32 × HS) (h : f9_goTold_82_b k82 x4 x6 x7 σ = some r) : AR l RX9 cX9_goTold 8 (some .int) (wsU yX9_goTold cX9_goTold 8 (some .int)) rm9_goTold SM 82 [(0, .ref 0), (4, .int x4), (6, .int x6), (7, .int x7)] [] σ (some (.int r.1), r.2) := by
  unfold f9_goTold_82_b at h
  refine AR.iload (pc := 82) (j := 3) dX9_goTold_82 rfl ?_
  refine AR.iload (pc := 84) (j := 1) dX9_goTold_84 rfl ?_
  refine AR.icmp_ge (pc := 86) (tgt := 115) dX9_goTold_86 (by decide) (fun c1 => ?_) (fun c1 => ?_)
  · replace h := ite_t c1 h
    refine AR.aload_n (pc := 115) (j := 0) dX9_goTold_115 rfl rfl ?_
    refine AR.iconst (pc := 116) (v := 0) dX9_goTold_116 (by decide) ?_
    obtain ⟨r2, h2, h⟩ := bd_some h
    refine AR.callV (pc := 117) (As := [.int 0]) (st := []) (ci := 9) dX9_goTold_117 ⟨cd_X9_refused, im_X9_refused, se_X9_refused, ini_X9⟩ ml_X9_96 (A9_refused 0 σ _ h2) ⟨rfl, pd_X9_refused⟩ ⟨Nat.le_of_ble_eq_true rfl, Nat.le_of_ble_eq_true rfl⟩ ⟨rfl, rfl⟩ rfl rfl rfl (Nat.le_of_ble_eq_true rfl) ?_
    exact AR.iret (pc := 120) rfl dX9_goTold_120 (hrI (Option.some.inj h))
  · replace h := ite_f c1 h
    refine AR.aload_n (pc := 89) (j := 0) dX9_goTold_89 rfl rfl ?_
    refine AR.iload (pc := 90) (j := 3) dX9_goTold_90 rfl ?_
    refine AR.aload_n (pc := 92) (j := 0) dX9_goTold_92 rfl rfl ?_
    refine AR.getf (pc := 93) (ci := 9) (j := 34) (d := 23 + 2) (v := .ref 23) (T := TX9) dX9_goTold_93 rfl rfl rfl (by decide) (fun w hw => wsU_in (uw_X9 w hw)) (wsU_in fl_X9_76) rfl ?_
    refine AR.iload (pc := 96) (j := 2) dX9_goTold_96 rfl ?_
    refine AR.iload (pc := 98) (j := 3) dX9_goTold_98 rfl ?_
    refine AR.iadd (pc := 100) dX9_goTold_100 ?_
    obtain ⟨c3, h⟩ := gn_some h
    refine AR.iaload (pc := 101) dX9_goTold_101 rfl c3 ?_
    refine AR.aload_n (pc := 102) (j := 0) dX9_goTold_102 rfl rfl ?_
    refine AR.getf (pc := 103) (ci := 9) (j := 3) (d := 0) (v := .int (σ.1 0 3)) (T := TX9) dX9_goTold_103 rfl rfl rfl (by decide) (fun w hw => wsU_in (uw_X9 w hw)) (wsU_in fl_X9_170) rfl ?_
    obtain ⟨r4, h4, h⟩ := bd_some h
    refine AR.callV (pc := 106) (As := [.int x7, .int (σ.1 23 ((x6 + x7) : Int32).toNatClampNeg), .int (σ.1 0 3)]) (st := []) (ci := 9) dX9_goTold_106 ⟨cd_X9_goTurn, im_X9_goTurn, se_X9_goTurn, ini_X9⟩ ml_X9_224 (A9_goTurn x7 (σ.1 23 ((x6 + x7) : Int32).toNatClampNeg) (σ.1 0 3) σ _ h4) ⟨rfl, pd_X9_goTurn⟩ ⟨Nat.le_of_ble_eq_true rfl, Nat.le_of_ble_eq_true rfl⟩ ⟨rfl, rfl⟩ rfl rfl rfl (Nat.le_of_ble_eq_true rfl) ?_
    refine AR.iinc (pc := 109) (j := 3) (v := (x7 + 1)) (L2 := [(7, .int (x7 + 1)), (0, .ref 0), (4, .int x4), (6, .int x6)]) dX9_goTold_109 rfl rfl (by decide) rfl ?_
    refine AR.goto (pc := 112) (tgt := 82) dX9_goTold_112 (by decide) ?_
    exact AR.pick [1, 2, 3, 0] rfl (hk82 ((x7 + 1), r4) r h)
theorem A9_goTold_82 {l : Launch} (x4 : Int32) (x6 : Int32) (p : Int32 × HS) (r : Int32 × HS) (h : f9_goTold_82 x4 x6 p = some r) : AR l RX9 cX9_goTold 8 (some .int) (wsU yX9_goTold cX9_goTold 8 (some .int)) rm9_goTold SM 82 [(0, .ref 0), (4, .int x4), (6, .int x6), (7, .int (p.1))] [] p.2 (some (.int r.1), r.2) := by
  unfold f9_goTold_82 at h
  exact wloop_run (body := fun k82 p => f9_goTold_82_b k82 x4 x6 p.1 p.2) (Q := fun p r => AR l RX9 cX9_goTold 8 (some .int) (wsU yX9_goTold cX9_goTold 8 (some .int)) rm9_goTold SM 82 [(0, .ref 0), (4, .int x4), (6, .int x6), (7, .int (p.1))] [] p.2 (some (.int r.1), r.2)) (fun k82 hk82 p r h => A9_goTold_82_b k82 x4 x6 p.1 hk82 p.2 r h) fuelN p r h
set_option maxHeartbeats 4000000 in
set_option maxRecDepth 100000 in
theorem A9_goTold {l : Launch} (x1 : Int32) (x2 : Int32) (x3 : Int32) (x4 : Int32) (σ : HS) (r : Int32 × HS) (h : f9_goTold x1 x2 x3 x4 σ = some r) : MA l yX9_goTold (wsU yX9_goTold cX9_goTold 8 (some .int)) rm9_goTold SM [.ref 0, .int x1, .int x2, .int x3, .int x4] σ (some (.int r.1), r.2) := by
  refine MA.of (L := [(0, .ref 0), (1, .int x1), (2, .int x2), (3, .int x3), (4, .int x4)]) pn_X9_goTold rfl (fun _ => Nat.le_of_ble_eq_true rfl) (fun _ => rfl) ?_
  unfold f9_goTold at h
  refine AR.aload_n (pc := 0) (j := 0) dX9_goTold_0 rfl rfl ?_
  refine AR.iload_n (pc := 1) (j := 1) dX9_goTold_1 rfl rfl ?_
  refine AR.iload_n (pc := 2) (j := 2) dX9_goTold_2 rfl rfl ?_
  refine AR.iload_n (pc := 3) (j := 3) dX9_goTold_3 rfl rfl ?_
  refine AR.iload (pc := 4) (j := 4) dX9_goTold_4 rfl ?_
  refine AR.i2l (pc := 6) dX9_goTold_6 ?_
  obtain ⟨r1, h1, h⟩ := bd_some h
  refine AR.callV (pc := 7) (As := [.int x1, .int x2, .int x3, .long ((x4 : Int32).toInt64)]) (st := []) (ci := 9) dX9_goTold_7 ⟨cd_X9_barred, im_X9_barred, se_X9_barred, ini_X9⟩ ml_X9_160 (A9_barred x1 x2 x3 ((x4 : Int32).toInt64) σ _ h1) ⟨rfl, pd_X9_barred⟩ ⟨Nat.le_of_ble_eq_true rfl, Nat.le_of_ble_eq_true rfl⟩ ⟨rfl, rfl⟩ rfl rfl rfl (Nat.le_of_ble_eq_true rfl) ?_
  refine AR.istore (pc := 10) (L2 := [(5, .int (r1.1)), (0, .ref 0), (1, .int x1), (2, .int x2), (3, .int x3), (4, .int x4)]) dX9_goTold_10 (by decide) rfl ?_
  refine AR.iload (pc := 12) (j := 0) dX9_goTold_12 rfl ?_
  refine AR.if_ge (pc := 14) (tgt := 20) dX9_goTold_14 (by decide) (fun c2 => ?_) (fun c2 => ?_)
  · replace h := ite_t c2 h
    refine AR.aload_n (pc := 20) (j := 1) dX9_goTold_20 rfl rfl ?_
    refine AR.getf (pc := 21) (ci := 9) (j := 1) (d := 0) (v := .int ((r1.2).1 0 1)) (T := TX9) dX9_goTold_21 rfl rfl rfl (by decide) (fun w hw => wsU_in (uw_X9 w hw)) (wsU_in fl_X9_113) rfl ?_
    refine AR.if_ne (pc := 24) (tgt := 34) dX9_goTold_24 (by decide) (fun c3 => ?_) (fun c3 => ?_)
    · replace h := ite_f c3 h
      refine AR.iload (pc := 34) (j := 5) dX9_goTold_34 rfl ?_
      refine AR.aload_n (pc := 36) (j := 1) dX9_goTold_36 rfl rfl ?_
      obtain ⟨r4, h4, h⟩ := bd_some h
      refine AR.callV (pc := 37) (As := []) (st := [.int x4]) (ci := 9) dX9_goTold_37 ⟨cd_X9_turnsNow, im_X9_turnsNow, se_X9_turnsNow, ini_X9⟩ ml_X9_215 (A9_turnsNow (r1.2) _ h4) ⟨rfl, pd_X9_turnsNow⟩ ⟨Nat.le_of_ble_eq_true rfl, Nat.le_of_ble_eq_true rfl⟩ ⟨rfl, rfl⟩ rfl rfl rfl (Nat.le_of_ble_eq_true rfl) ?_
      refine AR.icmp_le (pc := 40) (tgt := 50) dX9_goTold_40 (by decide) (fun c5 => ?_) (fun c5 => ?_)
      · replace h := ite_t c5 h
        refine AR.bipush (pc := 50) (v := 100) dX9_goTold_50 (by decide) ?_
        refine AR.iload_n (pc := 52) (j := 2) dX9_goTold_52 rfl rfl ?_
        refine AR.imul (pc := 53) dX9_goTold_53 ?_
        refine AR.iload_n (pc := 54) (j := 4) dX9_goTold_54 rfl rfl ?_
        refine AR.iadd (pc := 55) dX9_goTold_55 ?_
        refine AR.istore (pc := 56) (L2 := [(6, .int ((100 * x1) + x3)), (5, .int (r1.1)), (0, .ref 0), (1, .int x1), (2, .int x2), (3, .int x3), (4, .int x4)]) dX9_goTold_56 (by decide) rfl ?_
        refine AR.aload_n (pc := 58) (j := 2) dX9_goTold_58 rfl rfl ?_
        refine AR.iload (pc := 59) (j := 0) dX9_goTold_59 rfl ?_
        refine AR.iload (pc := 61) (j := 6) dX9_goTold_61 rfl ?_
        obtain ⟨r6, h6, h⟩ := bd_some h
        refine AR.callV (pc := 63) (As := [.int ((100 * x1) + x3), .int x4]) (st := []) (ci := 9) dX9_goTold_63 ⟨cd_X9_areWords, im_X9_areWords, se_X9_areWords, ini_X9⟩ ml_X9_218 (A9_areWords ((100 * x1) + x3) x4 (r4.2) _ h6) ⟨rfl, pd_X9_areWords⟩ ⟨Nat.le_of_ble_eq_true rfl, Nat.le_of_ble_eq_true rfl⟩ ⟨rfl, rfl⟩ rfl rfl rfl (Nat.le_of_ble_eq_true rfl) ?_
        refine AR.if_ne (pc := 66) (tgt := 75) dX9_goTold_66 (by decide) (fun c7 => ?_) (fun c7 => ?_)
        · replace h := ite_f c7 h
          refine AR.aload_n (pc := 75) (j := 2) dX9_goTold_75 rfl rfl ?_
          obtain ⟨r8, h8, h⟩ := bd_some h
          refine AR.callV (pc := 76) (As := []) (st := []) (ci := 9) dX9_goTold_76 ⟨cd_X9_beginDay, im_X9_beginDay, se_X9_beginDay, ini_X9⟩ ml_X9_221 (A9_beginDay (r6.2) _ h8) ⟨rfl, pd_X9_beginDay⟩ ⟨Nat.le_of_ble_eq_true rfl, Nat.le_of_ble_eq_true rfl⟩ ⟨rfl, rfl⟩ rfl rfl rfl (Nat.le_of_ble_eq_true rfl) ?_
          refine AR.iconst (pc := 79) (v := 0) dX9_goTold_79 (by decide) ?_
          refine AR.istore (pc := 80) (L2 := [(7, .int 0), (6, .int ((100 * x1) + x3)), (5, .int (r1.1)), (0, .ref 0), (1, .int x1), (2, .int x2), (3, .int x3), (4, .int x4)]) dX9_goTold_80 (by decide) rfl ?_
          exact AR.pick [3, 7, 1, 0] rfl (A9_goTold_82 x4 ((100 * x1) + x3) (0, r8) r h)
        · replace h := ite_t c7 h
          refine AR.aload_n (pc := 69) (j := 2) dX9_goTold_69 rfl rfl ?_
          refine AR.iconst (pc := 70) (v := (-1)) dX9_goTold_70 (by decide) ?_
          obtain ⟨r9, h9, h⟩ := bd_some h
          refine AR.callV (pc := 71) (As := [.int (-1)]) (st := []) (ci := 9) dX9_goTold_71 ⟨cd_X9_refused, im_X9_refused, se_X9_refused, ini_X9⟩ ml_X9_96 (A9_refused (-1) (r6.2) _ h9) ⟨rfl, pd_X9_refused⟩ ⟨Nat.le_of_ble_eq_true rfl, Nat.le_of_ble_eq_true rfl⟩ ⟨rfl, rfl⟩ rfl rfl rfl (Nat.le_of_ble_eq_true rfl) ?_
          exact AR.iret (pc := 74) rfl dX9_goTold_74 (hrI (Option.some.inj h))
      · replace h := ite_f c5 h
        refine AR.aload_n (pc := 43) (j := 1) dX9_goTold_43 rfl rfl ?_
        refine AR.bipush (pc := 44) (v := (-2)) dX9_goTold_44 (by decide) ?_
        obtain ⟨r10, h10, h⟩ := bd_some h
        refine AR.callV (pc := 46) (As := [.int (-2)]) (st := []) (ci := 9) dX9_goTold_46 ⟨cd_X9_refused, im_X9_refused, se_X9_refused, ini_X9⟩ ml_X9_96 (A9_refused (-2) (r4.2) _ h10) ⟨rfl, pd_X9_refused⟩ ⟨Nat.le_of_ble_eq_true rfl, Nat.le_of_ble_eq_true rfl⟩ ⟨rfl, rfl⟩ rfl rfl rfl (Nat.le_of_ble_eq_true rfl) ?_
        exact AR.iret (pc := 49) rfl dX9_goTold_49 (hrI (Option.some.inj h))
    · replace h := ite_t c3 h
      refine AR.aload_n (pc := 27) (j := 1) dX9_goTold_27 rfl rfl ?_
      refine AR.bipush (pc := 28) (v := (-3)) dX9_goTold_28 (by decide) ?_
      obtain ⟨r11, h11, h⟩ := bd_some h
      refine AR.callV (pc := 30) (As := [.int (-3)]) (st := []) (ci := 9) dX9_goTold_30 ⟨cd_X9_refused, im_X9_refused, se_X9_refused, ini_X9⟩ ml_X9_96 (A9_refused (-3) (r1.2) _ h11) ⟨rfl, pd_X9_refused⟩ ⟨Nat.le_of_ble_eq_true rfl, Nat.le_of_ble_eq_true rfl⟩ ⟨rfl, rfl⟩ rfl rfl rfl (Nat.le_of_ble_eq_true rfl) ?_
      exact AR.iret (pc := 33) rfl dX9_goTold_33 (hrI (Option.some.inj h))
  · replace h := ite_f c2 h
    refine AR.iload (pc := 17) (j := 0) dX9_goTold_17 rfl ?_
    exact AR.iret (pc := 19) rfl dX9_goTold_19 (hrI (Option.some.inj h))
noncomputable def f9_judge (x1 : Int32) (x2 : Int32) (x3 : Int32) (x4 : Int32) (x5 : Int32) (σ : HS) : Option (Int32 × HS) :=
  bd (f9_goTold x1 x2 x3 x4 σ) fun r1 =>
  if 0 ≤ (r1.1 : Int32) then
    if (x5 : Int32) = 0 then
      some (((r1.2).1 0 23), r1.2)
    else
      if (x5 : Int32) = 1 then
        some (((r1.2).1 0 24), r1.2)
      else
        if (x5 : Int32) = 2 then
          if (x4 : Int32) < 0 ∨ 7 ≤ (x4 : Int32).toNatClampNeg then none else
          some (((r1.2).1 13 (x4 : Int32).toNatClampNeg), r1.2)
        else
          some ((-2), r1.2)
  else
    some (r1.1, r1.2)
set_option maxHeartbeats 4000000 in
set_option maxRecDepth 100000 in
theorem A9_judge {l : Launch} (x1 : Int32) (x2 : Int32) (x3 : Int32) (x4 : Int32) (x5 : Int32) (σ : HS) (r : Int32 × HS) (h : f9_judge x1 x2 x3 x4 x5 σ = some r) : MA l yX9_judge (wsU yX9_judge cX9_judge 7 (some .int)) rm9_judge SM [.ref 0, .int x1, .int x2, .int x3, .int x4, .int x5] σ (some (.int r.1), r.2) := by
  refine MA.of (L := [(0, .ref 0), (1, .int x1), (2, .int x2), (3, .int x3), (4, .int x4), (5, .int x5)]) pn_X9_judge rfl (fun _ => Nat.le_of_ble_eq_true rfl) (fun _ => rfl) ?_
  unfold f9_judge at h
  refine AR.aload_n (pc := 0) (j := 0) dX9_judge_0 rfl rfl ?_
  refine AR.iload_n (pc := 1) (j := 1) dX9_judge_1 rfl rfl ?_
  refine AR.iload_n (pc := 2) (j := 2) dX9_judge_2 rfl rfl ?_
  refine AR.iload_n (pc := 3) (j := 3) dX9_judge_3 rfl rfl ?_
  refine AR.iload (pc := 4) (j := 4) dX9_judge_4 rfl ?_
  obtain ⟨r1, h1, h⟩ := bd_some h
  refine AR.callV (pc := 6) (As := [.int x1, .int x2, .int x3, .int x4]) (st := []) (ci := 9) dX9_judge_6 ⟨cd_X9_goTold, im_X9_goTold, se_X9_goTold, ini_X9⟩ ml_X9_228 (A9_goTold x1 x2 x3 x4 σ _ h1) ⟨rfl, pd_X9_goTold⟩ ⟨Nat.le_of_ble_eq_true rfl, Nat.le_of_ble_eq_true rfl⟩ ⟨rfl, rfl⟩ rfl rfl rfl (Nat.le_of_ble_eq_true rfl) ?_
  refine AR.istore (pc := 9) (L2 := [(6, .int (r1.1)), (0, .ref 0), (1, .int x1), (2, .int x2), (3, .int x3), (4, .int x4), (5, .int x5)]) dX9_judge_9 (by decide) rfl ?_
  refine AR.iload (pc := 11) (j := 0) dX9_judge_11 rfl ?_
  refine AR.if_ge (pc := 13) (tgt := 19) dX9_judge_13 (by decide) (fun c2 => ?_) (fun c2 => ?_)
  · replace h := ite_t c2 h
    refine AR.iload (pc := 19) (j := 6) dX9_judge_19 rfl ?_
    refine AR.if_ne (pc := 21) (tgt := 31) dX9_judge_21 (by decide) (fun c3 => ?_) (fun c3 => ?_)
    · replace h := ite_f c3 h
      refine AR.iload (pc := 31) (j := 6) dX9_judge_31 rfl ?_
      refine AR.iconst (pc := 33) (v := 1) dX9_judge_33 (by decide) ?_
      refine AR.icmp_ne (pc := 34) (tgt := 44) dX9_judge_34 (by decide) (fun c4 => ?_) (fun c4 => ?_)
      · replace h := ite_f c4 h
        refine AR.iload (pc := 44) (j := 6) dX9_judge_44 rfl ?_
        refine AR.iconst (pc := 46) (v := 2) dX9_judge_46 (by decide) ?_
        refine AR.icmp_ne (pc := 47) (tgt := 60) dX9_judge_47 (by decide) (fun c5 => ?_) (fun c5 => ?_)
        · replace h := ite_f c5 h
          refine AR.bipush (pc := 60) (v := (-2)) dX9_judge_60 (by decide) ?_
          exact AR.iret (pc := 62) rfl dX9_judge_62 (hrI (Option.some.inj h))
        · replace h := ite_t c5 h
          refine AR.aload_n (pc := 50) (j := 1) dX9_judge_50 rfl rfl ?_
          refine AR.getf (pc := 51) (ci := 9) (j := 21) (d := 13 + 2) (v := .ref 13) (T := TX9) dX9_judge_51 rfl rfl rfl (by decide) (fun w hw => wsU_in (uw_X9 w hw)) (wsU_in fl_X9_46) rfl ?_
          refine AR.iload (pc := 54) (j := 5) dX9_judge_54 rfl ?_
          obtain ⟨c6, h⟩ := gn_some h
          refine AR.iaload (pc := 56) dX9_judge_56 rfl c6 ?_
          refine AR.goto (pc := 57) (tgt := 62) dX9_judge_57 (by decide) ?_
          exact AR.iret (pc := 62) rfl dX9_judge_62 (hrI (Option.some.inj h))
      · replace h := ite_t c4 h
        refine AR.aload_n (pc := 37) (j := 1) dX9_judge_37 rfl rfl ?_
        refine AR.getf (pc := 38) (ci := 9) (j := 24) (d := 0) (v := .int ((r1.2).1 0 24)) (T := TX9) dX9_judge_38 rfl rfl rfl (by decide) (fun w hw => wsU_in (uw_X9 w hw)) (wsU_in fl_X9_197) rfl ?_
        refine AR.goto (pc := 41) (tgt := 62) dX9_judge_41 (by decide) ?_
        exact AR.iret (pc := 62) rfl dX9_judge_62 (hrI (Option.some.inj h))
    · replace h := ite_t c3 h
      refine AR.aload_n (pc := 24) (j := 1) dX9_judge_24 rfl rfl ?_
      refine AR.getf (pc := 25) (ci := 9) (j := 23) (d := 0) (v := .int ((r1.2).1 0 23)) (T := TX9) dX9_judge_25 rfl rfl rfl (by decide) (fun w hw => wsU_in (uw_X9 w hw)) (wsU_in fl_X9_194) rfl ?_
      refine AR.goto (pc := 28) (tgt := 62) dX9_judge_28 (by decide) ?_
      exact AR.iret (pc := 62) rfl dX9_judge_62 (hrI (Option.some.inj h))
  · replace h := ite_f c2 h
    refine AR.iload (pc := 16) (j := 0) dX9_judge_16 rfl ?_
    exact AR.iret (pc := 18) rfl dX9_judge_18 (hrI (Option.some.inj h))
noncomputable def f9_worthOf (x1 : Int32) (x2 : Int32) (x3 : Int32) (x4 : Int32) (x5 : Int32) (σ : HS) : Option (Int32 × HS) :=
  bd (f9_goTold x1 x2 x3 x4 σ) fun r1 =>
  if 0 ≤ (r1.1 : Int32) then
    bd (f9_noSpeaker x5 (r1.2)) fun r3 =>
    if (r3.1 : Int32) = 0 then
      if (x5 : Int32) < 0 ∨ 5 ≤ (x5 : Int32).toNatClampNeg then none else
      some (((r3.2).1 14 (x5 : Int32).toNatClampNeg), r3.2)
    else
      some ((-1), r3.2)
  else
    some (r1.1, r1.2)
set_option maxHeartbeats 4000000 in
set_option maxRecDepth 100000 in
theorem A9_worthOf {l : Launch} (x1 : Int32) (x2 : Int32) (x3 : Int32) (x4 : Int32) (x5 : Int32) (σ : HS) (r : Int32 × HS) (h : f9_worthOf x1 x2 x3 x4 x5 σ = some r) : MA l yX9_worthOf (wsU yX9_worthOf cX9_worthOf 7 (some .int)) rm9_worthOf SM [.ref 0, .int x1, .int x2, .int x3, .int x4, .int x5] σ (some (.int r.1), r.2) := by
  refine MA.of (L := [(0, .ref 0), (1, .int x1), (2, .int x2), (3, .int x3), (4, .int x4), (5, .int x5)]) pn_X9_worthOf rfl (fun _ => Nat.le_of_ble_eq_true rfl) (fun _ => rfl) ?_
  unfold f9_worthOf at h
  refine AR.aload_n (pc := 0) (j := 0) dX9_worthOf_0 rfl rfl ?_
  refine AR.iload_n (pc := 1) (j := 1) dX9_worthOf_1 rfl rfl ?_
  refine AR.iload_n (pc := 2) (j := 2) dX9_worthOf_2 rfl rfl ?_
  refine AR.iload_n (pc := 3) (j := 3) dX9_worthOf_3 rfl rfl ?_
  refine AR.iload (pc := 4) (j := 4) dX9_worthOf_4 rfl ?_
  obtain ⟨r1, h1, h⟩ := bd_some h
  refine AR.callV (pc := 6) (As := [.int x1, .int x2, .int x3, .int x4]) (st := []) (ci := 9) dX9_worthOf_6 ⟨cd_X9_goTold, im_X9_goTold, se_X9_goTold, ini_X9⟩ ml_X9_228 (A9_goTold x1 x2 x3 x4 σ _ h1) ⟨rfl, pd_X9_goTold⟩ ⟨Nat.le_of_ble_eq_true rfl, Nat.le_of_ble_eq_true rfl⟩ ⟨rfl, rfl⟩ rfl rfl rfl (Nat.le_of_ble_eq_true rfl) ?_
  refine AR.istore (pc := 9) (L2 := [(6, .int (r1.1)), (0, .ref 0), (1, .int x1), (2, .int x2), (3, .int x3), (4, .int x4), (5, .int x5)]) dX9_worthOf_9 (by decide) rfl ?_
  refine AR.iload (pc := 11) (j := 0) dX9_worthOf_11 rfl ?_
  refine AR.if_ge (pc := 13) (tgt := 19) dX9_worthOf_13 (by decide) (fun c2 => ?_) (fun c2 => ?_)
  · replace h := ite_t c2 h
    refine AR.aload_n (pc := 19) (j := 1) dX9_worthOf_19 rfl rfl ?_
    refine AR.iload (pc := 20) (j := 6) dX9_worthOf_20 rfl ?_
    obtain ⟨r3, h3, h⟩ := bd_some h
    refine AR.callV (pc := 22) (As := [.int x5]) (st := []) (ci := 9) dX9_worthOf_22 ⟨cd_X9_noSpeaker, im_X9_noSpeaker, se_X9_noSpeaker, ini_X9⟩ ml_X9_116 (A9_noSpeaker x5 (r1.2) _ h3) ⟨rfl, pd_X9_noSpeaker⟩ ⟨Nat.le_of_ble_eq_true rfl, Nat.le_of_ble_eq_true rfl⟩ ⟨rfl, rfl⟩ rfl rfl rfl (Nat.le_of_ble_eq_true rfl) ?_
    refine AR.if_eq (pc := 25) (tgt := 32) dX9_worthOf_25 (by decide) (fun c4 => ?_) (fun c4 => ?_)
    · replace h := ite_t c4 h
      refine AR.aload_n (pc := 32) (j := 1) dX9_worthOf_32 rfl rfl ?_
      refine AR.getf (pc := 33) (ci := 9) (j := 22) (d := 14 + 2) (v := .ref 14) (T := TX9) dX9_worthOf_33 rfl rfl rfl (by decide) (fun w hw => wsU_in (uw_X9 w hw)) (wsU_in fl_X9_49) rfl ?_
      refine AR.iload (pc := 36) (j := 6) dX9_worthOf_36 rfl ?_
      obtain ⟨c5, h⟩ := gn_some h
      refine AR.iaload (pc := 38) dX9_worthOf_38 rfl c5 ?_
      exact AR.iret (pc := 39) rfl dX9_worthOf_39 (hrI (Option.some.inj h))
    · replace h := ite_f c4 h
      refine AR.iconst (pc := 28) (v := (-1)) dX9_worthOf_28 (by decide) ?_
      refine AR.goto (pc := 29) (tgt := 39) dX9_worthOf_29 (by decide) ?_
      exact AR.iret (pc := 39) rfl dX9_worthOf_39 (hrI (Option.some.inj h))
  · replace h := ite_f c2 h
    refine AR.iload (pc := 16) (j := 0) dX9_worthOf_16 rfl ?_
    exact AR.iret (pc := 18) rfl dX9_worthOf_18 (hrI (Option.some.inj h))
noncomputable def f9_valueOf (x1 : Int32) (x2 : Int32) (x3 : Int32) (σ : HS) : Option (Int32 × HS) :=
  if (((((100 * x1) + x2) * 5) + x3) : Int32) < 0 ∨ 3500 ≤ (((((100 * x1) + x2) * 5) + x3) : Int32).toNatClampNeg then none else
  some ((σ.1 16 (((((100 * x1) + x2) * 5) + x3) : Int32).toNatClampNeg), σ)
set_option maxHeartbeats 4000000 in
set_option maxRecDepth 100000 in
theorem A9_valueOf {l : Launch} (x1 : Int32) (x2 : Int32) (x3 : Int32) (σ : HS) (r : Int32 × HS) (h : f9_valueOf x1 x2 x3 σ = some r) : MA l yX9_valueOf (wsU yX9_valueOf cX9_valueOf 4 (some .int)) rm9_valueOf SM [.ref 0, .int x1, .int x2, .int x3] σ (some (.int r.1), r.2) := by
  refine MA.of (L := [(0, .ref 0), (1, .int x1), (2, .int x2), (3, .int x3)]) pn_X9_valueOf rfl (fun _ => Nat.le_of_ble_eq_true rfl) (fun _ => rfl) ?_
  unfold f9_valueOf at h
  refine AR.aload_n (pc := 0) (j := 0) dX9_valueOf_0 rfl rfl ?_
  refine AR.getf (pc := 1) (ci := 9) (j := 26) (d := 16 + 2) (v := .ref 16) (T := TX9) dX9_valueOf_1 rfl rfl rfl (by decide) (fun w hw => wsU_in (uw_X9 w hw)) (wsU_in fl_X9_55) rfl ?_
  refine AR.bipush (pc := 4) (v := 100) dX9_valueOf_4 (by decide) ?_
  refine AR.iload_n (pc := 6) (j := 1) dX9_valueOf_6 rfl rfl ?_
  refine AR.imul (pc := 7) dX9_valueOf_7 ?_
  refine AR.iload_n (pc := 8) (j := 2) dX9_valueOf_8 rfl rfl ?_
  refine AR.iadd (pc := 9) dX9_valueOf_9 ?_
  refine AR.iconst (pc := 10) (v := 5) dX9_valueOf_10 (by decide) ?_
  refine AR.imul (pc := 11) dX9_valueOf_11 ?_
  refine AR.iload_n (pc := 12) (j := 3) dX9_valueOf_12 rfl rfl ?_
  refine AR.iadd (pc := 13) dX9_valueOf_13 ?_
  obtain ⟨c1, h⟩ := gn_some h
  refine AR.iaload (pc := 14) dX9_valueOf_14 rfl c1 ?_
  exact AR.iret (pc := 15) rfl dX9_valueOf_15 (hrI (Option.some.inj h))
noncomputable def f9_valueBy_31 (x1 : Int32) (x2 : Int32) (x3 : Int32) (x4 : Int32) (x5 : Int32) (z0 : Int32) (σ : HS) : Option (Int32 × HS) :=
  bd (f9_leftBy x5 x3 x2 σ) fun r1 =>
  bd (f9_behind (r1.1) ((r1.2).1 0 3) (r1.2)) fun r2 =>
  bd (f9_valueOf (x1 + 1) (r2.1) x4 (r2.2)) fun r3 =>
  some ((z0 + (r3.1)), r3.2)
noncomputable def f9_valueBy (x1 : Int32) (x2 : Int32) (x3 : Int32) (x4 : Int32) (σ : HS) : Option (Int32 × HS) :=
  bd (f9_speakerOf x1 σ) fun r1 =>
  bd (f9_isHeard (r1.1) x3 x2 (r1.2)) fun r2 =>
  if (r2.1 : Int32) = 0 then
    f9_valueBy_31 x1 x2 x3 x4 (r1.1) 0 (r2.2)
  else
    bd (f9_worthFor x4 (r1.1) x3 (r2.2)) fun r4 =>
    f9_valueBy_31 x1 x2 x3 x4 (r1.1) (r4.1) (r4.2)
set_option maxHeartbeats 4000000 in
set_option maxRecDepth 100000 in
theorem A9_valueBy_31 {l : Launch} (x1 : Int32) (x2 : Int32) (x3 : Int32) (x4 : Int32) (x5 : Int32) (z0 : Int32) (σ : HS) (r : Int32 × HS) (h : f9_valueBy_31 x1 x2 x3 x4 x5 z0 σ = some r) : AR l RX9 cX9_valueBy 6 (some .int) (wsU yX9_valueBy cX9_valueBy 6 (some .int)) rm9_valueBy SM 31 [(0, .ref 0), (1, .int x1), (2, .int x2), (3, .int x3), (4, .int x4), (5, .int x5)] [.int z0] σ (some (.int r.1), r.2) := by
  unfold f9_valueBy_31 at h
  refine AR.aload_n (pc := 31) (j := 0) dX9_valueBy_31 rfl rfl ?_
  refine AR.iload_n (pc := 32) (j := 1) dX9_valueBy_32 rfl rfl ?_
  refine AR.iconst (pc := 33) (v := 1) dX9_valueBy_33 (by decide) ?_
  refine AR.iadd (pc := 34) dX9_valueBy_34 ?_
  refine AR.aload_n (pc := 35) (j := 0) dX9_valueBy_35 rfl rfl ?_
  refine AR.aload_n (pc := 36) (j := 0) dX9_valueBy_36 rfl rfl ?_
  refine AR.iload (pc := 37) (j := 5) dX9_valueBy_37 rfl ?_
  refine AR.iload_n (pc := 39) (j := 3) dX9_valueBy_39 rfl rfl ?_
  refine AR.iload_n (pc := 40) (j := 2) dX9_valueBy_40 rfl rfl ?_
  obtain ⟨r1, h1, h⟩ := bd_some h
  refine AR.callV (pc := 41) (As := [.int x5, .int x3, .int x2]) (st := [.ref 0, .int (x1 + 1), .ref 0, .int z0]) (ci := 9) dX9_valueBy_41 ⟨cd_X9_leftBy, im_X9_leftBy, se_X9_leftBy, ini_X9⟩ ml_X9_209 (A9_leftBy x5 x3 x2 σ _ h1) ⟨rfl, pd_X9_leftBy⟩ ⟨Nat.le_of_ble_eq_true rfl, Nat.le_of_ble_eq_true rfl⟩ ⟨rfl, rfl⟩ rfl rfl rfl (Nat.le_of_ble_eq_true rfl) ?_
  refine AR.aload_n (pc := 44) (j := 0) dX9_valueBy_44 rfl rfl ?_
  refine AR.getf (pc := 45) (ci := 9) (j := 3) (d := 0) (v := .int ((r1.2).1 0 3)) (T := TX9) dX9_valueBy_45 rfl rfl rfl (by decide) (fun w hw => wsU_in (uw_X9 w hw)) (wsU_in fl_X9_170) rfl ?_
  obtain ⟨r2, h2, h⟩ := bd_some h
  refine AR.callV (pc := 48) (As := [.int (r1.1), .int ((r1.2).1 0 3)]) (st := [.int (x1 + 1), .ref 0, .int z0]) (ci := 9) dX9_valueBy_48 ⟨cd_X9_behind, im_X9_behind, se_X9_behind, ini_X9⟩ ml_X9_212 (A9_behind (r1.1) ((r1.2).1 0 3) (r1.2) _ h2) ⟨rfl, pd_X9_behind⟩ ⟨Nat.le_of_ble_eq_true rfl, Nat.le_of_ble_eq_true rfl⟩ ⟨rfl, rfl⟩ rfl rfl rfl (Nat.le_of_ble_eq_true rfl) ?_
  refine AR.iload (pc := 51) (j := 4) dX9_valueBy_51 rfl ?_
  obtain ⟨r3, h3, h⟩ := bd_some h
  refine AR.callV (pc := 53) (As := [.int (x1 + 1), .int (r2.1), .int x4]) (st := [.int z0]) (ci := 9) dX9_valueBy_53 ⟨cd_X9_valueOf, im_X9_valueOf, se_X9_valueOf, ini_X9⟩ ml_X9_232 (A9_valueOf (x1 + 1) (r2.1) x4 (r2.2) _ h3) ⟨rfl, pd_X9_valueOf⟩ ⟨Nat.le_of_ble_eq_true rfl, Nat.le_of_ble_eq_true rfl⟩ ⟨rfl, rfl⟩ rfl rfl rfl (Nat.le_of_ble_eq_true rfl) ?_
  refine AR.iadd (pc := 56) dX9_valueBy_56 ?_
  exact AR.iret (pc := 57) rfl dX9_valueBy_57 (hrI (Option.some.inj h))
set_option maxHeartbeats 4000000 in
set_option maxRecDepth 100000 in
theorem A9_valueBy {l : Launch} (x1 : Int32) (x2 : Int32) (x3 : Int32) (x4 : Int32) (σ : HS) (r : Int32 × HS) (h : f9_valueBy x1 x2 x3 x4 σ = some r) : MA l yX9_valueBy (wsU yX9_valueBy cX9_valueBy 6 (some .int)) rm9_valueBy SM [.ref 0, .int x1, .int x2, .int x3, .int x4] σ (some (.int r.1), r.2) := by
  refine MA.of (L := [(0, .ref 0), (1, .int x1), (2, .int x2), (3, .int x3), (4, .int x4)]) pn_X9_valueBy rfl (fun _ => Nat.le_of_ble_eq_true rfl) (fun _ => rfl) ?_
  unfold f9_valueBy at h
  refine AR.aload_n (pc := 0) (j := 0) dX9_valueBy_0 rfl rfl ?_
  refine AR.iload_n (pc := 1) (j := 1) dX9_valueBy_1 rfl rfl ?_
  obtain ⟨r1, h1, h⟩ := bd_some h
  refine AR.callV (pc := 2) (As := [.int x1]) (st := []) (ci := 9) dX9_valueBy_2 ⟨cd_X9_speakerOf, im_X9_speakerOf, se_X9_speakerOf, ini_X9⟩ ml_X9_200 (A9_speakerOf x1 σ _ h1) ⟨rfl, pd_X9_speakerOf⟩ ⟨Nat.le_of_ble_eq_true rfl, Nat.le_of_ble_eq_true rfl⟩ ⟨rfl, rfl⟩ rfl rfl rfl (Nat.le_of_ble_eq_true rfl) ?_
  refine AR.istore (pc := 5) (L2 := [(5, .int (r1.1)), (0, .ref 0), (1, .int x1), (2, .int x2), (3, .int x3), (4, .int x4)]) dX9_valueBy_5 (by decide) rfl ?_
  refine AR.aload_n (pc := 7) (j := 1) dX9_valueBy_7 rfl rfl ?_
  refine AR.iload (pc := 8) (j := 0) dX9_valueBy_8 rfl ?_
  refine AR.iload_n (pc := 10) (j := 4) dX9_valueBy_10 rfl rfl ?_
  refine AR.iload_n (pc := 11) (j := 3) dX9_valueBy_11 rfl rfl ?_
  obtain ⟨r2, h2, h⟩ := bd_some h
  refine AR.callV (pc := 12) (As := [.int (r1.1), .int x3, .int x2]) (st := []) (ci := 9) dX9_valueBy_12 ⟨cd_X9_isHeard, im_X9_isHeard, se_X9_isHeard, ini_X9⟩ ml_X9_203 (A9_isHeard (r1.1) x3 x2 (r1.2) _ h2) ⟨rfl, pd_X9_isHeard⟩ ⟨Nat.le_of_ble_eq_true rfl, Nat.le_of_ble_eq_true rfl⟩ ⟨rfl, rfl⟩ rfl rfl rfl (Nat.le_of_ble_eq_true rfl) ?_
  refine AR.if_eq (pc := 15) (tgt := 30) dX9_valueBy_15 (by decide) (fun c3 => ?_) (fun c3 => ?_)
  · replace h := ite_t c3 h
    refine AR.iconst (pc := 30) (v := 0) dX9_valueBy_30 (by decide) ?_
    exact AR.pick [1, 2, 3, 4, 5, 0] rfl (A9_valueBy_31 x1 x2 x3 x4 (r1.1) 0 (r2.2) r h)
  · replace h := ite_f c3 h
    refine AR.aload_n (pc := 18) (j := 1) dX9_valueBy_18 rfl rfl ?_
    refine AR.iload (pc := 19) (j := 5) dX9_valueBy_19 rfl ?_
    refine AR.iload (pc := 21) (j := 0) dX9_valueBy_21 rfl ?_
    refine AR.iload_n (pc := 23) (j := 4) dX9_valueBy_23 rfl rfl ?_
    obtain ⟨r4, h4, h⟩ := bd_some h
    refine AR.callV (pc := 24) (As := [.int x4, .int (r1.1), .int x3]) (st := []) (ci := 9) dX9_valueBy_24 ⟨cd_X9_worthFor, im_X9_worthFor, se_X9_worthFor, ini_X9⟩ ml_X9_206 (A9_worthFor x4 (r1.1) x3 (r2.2) _ h4) ⟨rfl, pd_X9_worthFor⟩ ⟨Nat.le_of_ble_eq_true rfl, Nat.le_of_ble_eq_true rfl⟩ ⟨rfl, rfl⟩ rfl rfl rfl (Nat.le_of_ble_eq_true rfl) ?_
    refine AR.goto (pc := 27) (tgt := 31) dX9_valueBy_27 (by decide) ?_
    exact AR.pick [1, 2, 3, 4, 5, 0] rfl (A9_valueBy_31 x1 x2 x3 x4 (r1.1) (r4.1) (r4.2) r h)
noncomputable def f9_lengthAs (x1 : Int32) (x2 : Int32) (σ : HS) : Option (Int32 × HS) :=
  if 0 ≤ (x2 : Int32) then
    if (((3 * x1) + x2) : Int32) < 0 ∨ 15 ≤ (((3 * x1) + x2) : Int32).toNatClampNeg then none else
    some ((σ.1 3 (((3 * x1) + x2) : Int32).toNatClampNeg), σ)
  else
    some (0, σ)
set_option maxHeartbeats 4000000 in
set_option maxRecDepth 100000 in
theorem A9_lengthAs {l : Launch} (x1 : Int32) (x2 : Int32) (σ : HS) (r : Int32 × HS) (h : f9_lengthAs x1 x2 σ = some r) : MA l yX9_lengthAs (wsU yX9_lengthAs cX9_lengthAs 3 (some .int)) rm9_lengthAs SM [.ref 0, .int x1, .int x2] σ (some (.int r.1), r.2) := by
  refine MA.of (L := [(0, .ref 0), (1, .int x1), (2, .int x2)]) pn_X9_lengthAs rfl (fun _ => Nat.le_of_ble_eq_true rfl) (fun _ => rfl) ?_
  unfold f9_lengthAs at h
  refine AR.iload_n (pc := 0) (j := 2) dX9_lengthAs_0 rfl rfl ?_
  refine AR.if_ge (pc := 1) (tgt := 8) dX9_lengthAs_1 (by decide) (fun c1 => ?_) (fun c1 => ?_)
  · replace h := ite_t c1 h
    refine AR.aload_n (pc := 8) (j := 0) dX9_lengthAs_8 rfl rfl ?_
    refine AR.getf (pc := 9) (ci := 9) (j := 7) (d := 3 + 2) (v := .ref 3) (T := TX9) dX9_lengthAs_9 rfl rfl rfl (by decide) (fun w hw => wsU_in (uw_X9 w hw)) (wsU_in fl_X9_16) rfl ?_
    refine AR.iconst (pc := 12) (v := 3) dX9_lengthAs_12 (by decide) ?_
    refine AR.iload_n (pc := 13) (j := 1) dX9_lengthAs_13 rfl rfl ?_
    refine AR.imul (pc := 14) dX9_lengthAs_14 ?_
    refine AR.iload_n (pc := 15) (j := 2) dX9_lengthAs_15 rfl rfl ?_
    refine AR.iadd (pc := 16) dX9_lengthAs_16 ?_
    obtain ⟨c2, h⟩ := gn_some h
    refine AR.iaload (pc := 17) dX9_lengthAs_17 rfl c2 ?_
    exact AR.iret (pc := 18) rfl dX9_lengthAs_18 (hrI (Option.some.inj h))
  · replace h := ite_f c1 h
    refine AR.iconst (pc := 4) (v := 0) dX9_lengthAs_4 (by decide) ?_
    refine AR.goto (pc := 5) (tgt := 18) dX9_lengthAs_5 (by decide) ?_
    exact AR.iret (pc := 18) rfl dX9_lengthAs_18 (hrI (Option.some.inj h))
noncomputable def f9_bestIn_145 (k24 : Int32 × Int32 × Int32 × HS → Option (Int32 × HS)) (x1 : Int32) (x2 : Int32) (x3 : Int32) (x4 : Int32) (x5 : Int32) (x6 : Int32) (σ : HS) : Option (Int32 × HS) :=
  k24 (x4, x5, (x6 + 1), σ)
noncomputable def f9_bestIn_137 (k24 : Int32 × Int32 × Int32 × HS → Option (Int32 × HS)) (x1 : Int32) (x2 : Int32) (x3 : Int32) (x6 : Int32) (x7 : Int32) (σ : HS) : Option (Int32 × HS) :=
  f9_bestIn_145 k24 x1 x2 x3 x6 x7 x6 σ
noncomputable def f9_bestIn_116 (k24 : Int32 × Int32 × Int32 × HS → Option (Int32 × HS)) (x1 : Int32) (x2 : Int32) (x3 : Int32) (x4 : Int32) (x5 : Int32) (x6 : Int32) (x7 : Int32) (z0 : Int32) (σ : HS) : Option (Int32 × HS) :=
  if (x5 : Int32) < x7 then
    f9_bestIn_137 k24 x1 x2 x3 x6 x7 σ
  else
    if (x7 : Int32) = x5 then
      if (z0 : Int32) = 0 then
        f9_bestIn_145 k24 x1 x2 x3 x4 x5 x6 σ
      else
        f9_bestIn_137 k24 x1 x2 x3 x6 x7 σ
    else
      f9_bestIn_145 k24 x1 x2 x3 x4 x5 x6 σ
noncomputable def f9_bestIn_24_b (k24 : Int32 × Int32 × Int32 × HS → Option (Int32 × HS)) (x1 : Int32) (x2 : Int32) (x3 : Int32) (x4 : Int32) (x5 : Int32) (x6 : Int32) (σ : HS) : Option (Int32 × HS) :=
  if (x3 : Int32) < 0 ∨ 5 ≤ (x3 : Int32).toNatClampNeg then none else
  if ((σ.1 2 (x3 : Int32).toNatClampNeg) : Int32) ≤ x6 then
    some (x4, σ)
  else
    if (x3 : Int32) < 0 ∨ 5 ≤ (x3 : Int32).toNatClampNeg then none else
    if (2 : Int32) ≤ (σ.1 1 (x3 : Int32).toNatClampNeg) then
      some (x4, σ)
    else
      bd (f9_isHeard x3 x6 x2 σ) fun r5 =>
      if (r5.1 : Int32) = 0 then
        f9_bestIn_145 k24 x1 x2 x3 x4 x5 x6 (r5.2)
      else
        bd (f9_valueBy x1 x2 x6 x3 (r5.2)) fun r7 =>
        bd (f9_lengthAs x3 x6 (r7.2)) fun r8 =>
        bd (f9_lengthAs x3 x4 (r8.2)) fun r9 =>
        if (x3 : Int32) < 0 ∨ 5 ≤ (x3 : Int32).toNatClampNeg then none else
        if (((r9.2).1 1 (x3 : Int32).toNatClampNeg) : Int32) = 0 then
          if (((r8.1) - (r9.1)) : Int32) ≤ 0 then
            f9_bestIn_116 k24 x1 x2 x3 x4 x5 x6 (r7.1) 0 (r9.2)
          else
            f9_bestIn_116 k24 x1 x2 x3 x4 x5 x6 (r7.1) 1 (r9.2)
        else
          if 0 ≤ (((r8.1) - (r9.1)) : Int32) then
            f9_bestIn_116 k24 x1 x2 x3 x4 x5 x6 (r7.1) 0 (r9.2)
          else
            f9_bestIn_116 k24 x1 x2 x3 x4 x5 x6 (r7.1) 1 (r9.2)
noncomputable def f9_bestIn_24 (x1 : Int32) (x2 : Int32) (x3 : Int32) (p : Int32 × Int32 × Int32 × HS) : Option (Int32 × HS) :=
  wloop (fun k24 p => f9_bestIn_24_b k24 x1 x2 x3 p.1 p.2.1 p.2.2.1 p.2.2.2) fuelN p
noncomputable def f9_bestIn (x1 : Int32) (x2 : Int32) (σ : HS) : Option (Int32 × HS) :=
  bd (f9_speakerOf x1 σ) fun r1 =>
  bd (f9_valueBy x1 x2 (-9) (r1.1) (r1.2)) fun r2 =>
  f9_bestIn_24 x1 x2 (r1.1) ((-9), r2.1, 0, r2.2)
set_option maxHeartbeats 4000000 in
set_option maxRecDepth 100000 in
theorem A9_bestIn_145 {l : Launch} (k24 : Int32 × Int32 × Int32 × HS → Option (Int32 × HS)) (x1 : Int32) (x2 : Int32) (x3 : Int32) (x4 : Int32) (x5 : Int32) (x6 : Int32) (hk24 : ∀ (p : Int32 × Int32 × Int32 × HS) (r : Int32 × HS), k24 p = some r → AR l RX9 cX9_bestIn 10 (some .int) (wsU yX9_bestIn cX9_bestIn 10 (some .int)) rm9_bestIn SM 24 [(0, .ref 0), (1, .int x1), (2, .int x2), (3, .int x3), (4, .int (p.1)), (5, .int (p.2.1)), (6, .int (p.2.2.1))] [] p.2.2.2 (some (.int r.1), r.2)) (σ : HS) (r : Int32 × HS) (h : f9_bestIn_145 k24 x1 x2 x3 x4 x5 x6 σ = some r) : AR l RX9 cX9_bestIn 10 (some .int) (wsU yX9_bestIn cX9_bestIn 10 (some .int)) rm9_bestIn SM 145 [(0, .ref 0), (1, .int x1), (2, .int x2), (3, .int x3), (4, .int x4), (5, .int x5), (6, .int x6)] [] σ (some (.int r.1), r.2) := by
  unfold f9_bestIn_145 at h
  refine AR.iinc (pc := 145) (j := 6) (v := (x6 + 1)) (L2 := [(6, .int (x6 + 1)), (0, .ref 0), (1, .int x1), (2, .int x2), (3, .int x3), (4, .int x4), (5, .int x5)]) dX9_bestIn_145 rfl rfl (by decide) rfl ?_
  refine AR.goto (pc := 148) (tgt := 24) dX9_bestIn_148 (by decide) ?_
  exact AR.pick [1, 2, 3, 4, 5, 6, 0] rfl (hk24 (x4, x5, (x6 + 1), σ) r h)
set_option maxHeartbeats 4000000 in
set_option maxRecDepth 100000 in
theorem A9_bestIn_137 {l : Launch} (k24 : Int32 × Int32 × Int32 × HS → Option (Int32 × HS)) (x1 : Int32) (x2 : Int32) (x3 : Int32) (x6 : Int32) (x7 : Int32) (hk24 : ∀ (p : Int32 × Int32 × Int32 × HS) (r : Int32 × HS), k24 p = some r → AR l RX9 cX9_bestIn 10 (some .int) (wsU yX9_bestIn cX9_bestIn 10 (some .int)) rm9_bestIn SM 24 [(0, .ref 0), (1, .int x1), (2, .int x2), (3, .int x3), (4, .int (p.1)), (5, .int (p.2.1)), (6, .int (p.2.2.1))] [] p.2.2.2 (some (.int r.1), r.2)) (σ : HS) (r : Int32 × HS) (h : f9_bestIn_137 k24 x1 x2 x3 x6 x7 σ = some r) : AR l RX9 cX9_bestIn 10 (some .int) (wsU yX9_bestIn cX9_bestIn 10 (some .int)) rm9_bestIn SM 137 [(0, .ref 0), (1, .int x1), (2, .int x2), (3, .int x3), (6, .int x6), (7, .int x7)] [] σ (some (.int r.1), r.2) := by
  unfold f9_bestIn_137 at h
  refine AR.iload (pc := 137) (j := 4) dX9_bestIn_137 rfl ?_
  refine AR.istore (pc := 139) (L2 := [(4, .int x6), (0, .ref 0), (1, .int x1), (2, .int x2), (3, .int x3), (6, .int x6), (7, .int x7)]) dX9_bestIn_139 (by decide) rfl ?_
  refine AR.iload (pc := 141) (j := 6) dX9_bestIn_141 rfl ?_
  refine AR.istore (pc := 143) (L2 := [(5, .int x7), (4, .int x6), (0, .ref 0), (1, .int x1), (2, .int x2), (3, .int x3), (6, .int x6), (7, .int x7)]) dX9_bestIn_143 (by decide) rfl ?_
  exact AR.pick [2, 3, 4, 5, 1, 0, 6] rfl (A9_bestIn_145 k24 x1 x2 x3 x6 x7 x6 hk24 σ r h)
set_option maxHeartbeats 4000000 in
set_option maxRecDepth 100000 in
theorem A9_bestIn_116 {l : Launch} (k24 : Int32 × Int32 × Int32 × HS → Option (Int32 × HS)) (x1 : Int32) (x2 : Int32) (x3 : Int32) (x4 : Int32) (x5 : Int32) (x6 : Int32) (x7 : Int32) (z0 : Int32) (hk24 : ∀ (p : Int32 × Int32 × Int32 × HS) (r : Int32 × HS), k24 p = some r → AR l RX9 cX9_bestIn 10 (some .int) (wsU yX9_bestIn cX9_bestIn 10 (some .int)) rm9_bestIn SM 24 [(0, .ref 0), (1, .int x1), (2, .int x2), (3, .int x3), (4, .int (p.1)), (5, .int (p.2.1)), (6, .int (p.2.2.1))] [] p.2.2.2 (some (.int r.1), r.2)) (σ : HS) (r : Int32 × HS) (h : f9_bestIn_116 k24 x1 x2 x3 x4 x5 x6 x7 z0 σ = some r) : AR l RX9 cX9_bestIn 10 (some .int) (wsU yX9_bestIn cX9_bestIn 10 (some .int)) rm9_bestIn SM 116 [(0, .ref 0), (1, .int x1), (2, .int x2), (3, .int x3), (4, .int x4), (5, .int x5), (6, .int x6), (7, .int x7)] [.int z0] σ (some (.int r.1), r.2) := by
  unfold f9_bestIn_116 at h
  refine AR.istore (pc := 116) (L2 := [(9, .int z0), (0, .ref 0), (1, .int x1), (2, .int x2), (3, .int x3), (4, .int x4), (5, .int x5), (6, .int x6), (7, .int x7)]) dX9_bestIn_116 (by decide) rfl ?_
  refine AR.iload (pc := 118) (j := 8) dX9_bestIn_118 rfl ?_
  refine AR.iload (pc := 120) (j := 6) dX9_bestIn_120 rfl ?_
  refine AR.icmp_gt (pc := 122) (tgt := 137) dX9_bestIn_122 (by decide) (fun c1 => ?_) (fun c1 => ?_)
  · replace h := ite_t c1 h
    exact AR.pick [1, 2, 3, 4, 7, 8] rfl (A9_bestIn_137 k24 x1 x2 x3 x6 x7 hk24 σ r h)
  · replace h := ite_f c1 h
    refine AR.iload (pc := 125) (j := 8) dX9_bestIn_125 rfl ?_
    refine AR.iload (pc := 127) (j := 6) dX9_bestIn_127 rfl ?_
    refine AR.icmp_ne (pc := 129) (tgt := 145) dX9_bestIn_129 (by decide) (fun c2 => ?_) (fun c2 => ?_)
    · replace h := ite_f c2 h
      exact AR.pick [1, 2, 3, 4, 5, 6, 7] rfl (A9_bestIn_145 k24 x1 x2 x3 x4 x5 x6 hk24 σ r h)
    · replace h := ite_t c2 h
      refine AR.iload (pc := 132) (j := 0) dX9_bestIn_132 rfl ?_
      refine AR.if_eq (pc := 134) (tgt := 145) dX9_bestIn_134 (by decide) (fun c3 => ?_) (fun c3 => ?_)
      · replace h := ite_t c3 h
        exact AR.pick [1, 2, 3, 4, 5, 6, 7] rfl (A9_bestIn_145 k24 x1 x2 x3 x4 x5 x6 hk24 σ r h)
      · replace h := ite_f c3 h
        exact AR.pick [1, 2, 3, 4, 7, 8] rfl (A9_bestIn_137 k24 x1 x2 x3 x6 x7 hk24 σ r h)
set_option maxHeartbeats 4000000 in
set_option maxRecDepth 100000 in
theorem A9_bestIn_24_b {l : Launch} (k24 : Int32 × Int32 × Int32 × HS → Option (Int32 × HS)) (x1 : Int32) (x2 : Int32) (x3 : Int32) (x4 : Int32) (x5 : Int32) (x6 : Int32) (hk24 : ∀ (p : Int32 × Int32 × Int32 × HS) (r : Int32 × HS), k24 p = some r → AR l RX9 cX9_bestIn 10 (some .int) (wsU yX9_bestIn cX9_bestIn 10 (some .int)) rm9_bestIn SM 24 [(0, .ref 0), (1, .int x1), (2, .int x2), (3, .int x3), (4, .int (p.1)), (5, .int (p.2.1)), (6, .int (p.2.2.1))] [] p.2.2.2 (some (.int r.1), r.2)) (σ : HS) (r : Int32 × HS) (h : f9_bestIn_24_b k24 x1 x2 x3 x4 x5 x6 σ = some r) : AR l RX9 cX9_bestIn 10 (some .int) (wsU yX9_bestIn cX9_bestIn 10 (some .int)) rm9_bestIn SM 24 [(0, .ref 0), (1, .int x1), (2, .int x2), (3, .int x3), (4, .int x4), (5, .int x5), (6, .int x6)] [] σ (some (.int r.1), r.2) := by
  unfold f9_bestIn_24_b at h
  refine AR.iload (pc := 24) (j := 6) dX9_bestIn_24 rfl ?_
  refine AR.aload_n (pc := 26) (j := 0) dX9_bestIn_26 rfl rfl ?_
  refine AR.getf (pc := 27) (ci := 9) (j := 6) (d := 2 + 2) (v := .ref 2) (T := TX9) dX9_bestIn_27 rfl rfl rfl (by decide) (fun w hw => wsU_in (uw_X9 w hw)) (wsU_in fl_X9_13) rfl ?_
  refine AR.iload_n (pc := 30) (j := 3) dX9_bestIn_30 rfl rfl ?_
  obtain ⟨c1, h⟩ := gn_some h
  refine AR.iaload (pc := 31) dX9_bestIn_31 rfl c1 ?_
  refine AR.icmp_ge (pc := 32) (tgt := 151) dX9_bestIn_32 (by decide) (fun c2 => ?_) (fun c2 => ?_)
  · replace h := ite_t c2 h
    refine AR.iload (pc := 151) (j := 4) dX9_bestIn_151 rfl ?_
    exact AR.iret (pc := 153) rfl dX9_bestIn_153 (hrI (Option.some.inj h))
  · replace h := ite_f c2 h
    refine AR.aload_n (pc := 35) (j := 0) dX9_bestIn_35 rfl rfl ?_
    refine AR.getf (pc := 36) (ci := 9) (j := 5) (d := 1 + 2) (v := .ref 1) (T := TX9) dX9_bestIn_36 rfl rfl rfl (by decide) (fun w hw => wsU_in (uw_X9 w hw)) (wsU_in fl_X9_7) rfl ?_
    refine AR.iload_n (pc := 39) (j := 3) dX9_bestIn_39 rfl rfl ?_
    obtain ⟨c3, h⟩ := gn_some h
    refine AR.iaload (pc := 40) dX9_bestIn_40 rfl c3 ?_
    refine AR.iconst (pc := 41) (v := 2) dX9_bestIn_41 (by decide) ?_
    refine AR.icmp_ge (pc := 42) (tgt := 151) dX9_bestIn_42 (by decide) (fun c4 => ?_) (fun c4 => ?_)
    · replace h := ite_t c4 h
      refine AR.iload (pc := 151) (j := 4) dX9_bestIn_151 rfl ?_
      exact AR.iret (pc := 153) rfl dX9_bestIn_153 (hrI (Option.some.inj h))
    · replace h := ite_f c4 h
      refine AR.aload_n (pc := 45) (j := 0) dX9_bestIn_45 rfl rfl ?_
      refine AR.iload_n (pc := 46) (j := 3) dX9_bestIn_46 rfl rfl ?_
      refine AR.iload (pc := 47) (j := 6) dX9_bestIn_47 rfl ?_
      refine AR.iload_n (pc := 49) (j := 2) dX9_bestIn_49 rfl rfl ?_
      obtain ⟨r5, h5, h⟩ := bd_some h
      refine AR.callV (pc := 50) (As := [.int x3, .int x6, .int x2]) (st := []) (ci := 9) dX9_bestIn_50 ⟨cd_X9_isHeard, im_X9_isHeard, se_X9_isHeard, ini_X9⟩ ml_X9_203 (A9_isHeard x3 x6 x2 σ _ h5) ⟨rfl, pd_X9_isHeard⟩ ⟨Nat.le_of_ble_eq_true rfl, Nat.le_of_ble_eq_true rfl⟩ ⟨rfl, rfl⟩ rfl rfl rfl (Nat.le_of_ble_eq_true rfl) ?_
      refine AR.if_eq (pc := 53) (tgt := 145) dX9_bestIn_53 (by decide) (fun c6 => ?_) (fun c6 => ?_)
      · replace h := ite_t c6 h
        exact AR.pick [0, 1, 2, 3, 4, 5, 6] rfl (A9_bestIn_145 k24 x1 x2 x3 x4 x5 x6 hk24 (r5.2) r h)
      · replace h := ite_f c6 h
        refine AR.aload_n (pc := 56) (j := 0) dX9_bestIn_56 rfl rfl ?_
        refine AR.iload_n (pc := 57) (j := 1) dX9_bestIn_57 rfl rfl ?_
        refine AR.iload_n (pc := 58) (j := 2) dX9_bestIn_58 rfl rfl ?_
        refine AR.iload (pc := 59) (j := 6) dX9_bestIn_59 rfl ?_
        refine AR.iload_n (pc := 61) (j := 3) dX9_bestIn_61 rfl rfl ?_
        obtain ⟨r7, h7, h⟩ := bd_some h
        refine AR.callV (pc := 62) (As := [.int x1, .int x2, .int x6, .int x3]) (st := []) (ci := 9) dX9_bestIn_62 ⟨cd_X9_valueBy, im_X9_valueBy, se_X9_valueBy, ini_X9⟩ ml_X9_235 (A9_valueBy x1 x2 x6 x3 (r5.2) _ h7) ⟨rfl, pd_X9_valueBy⟩ ⟨Nat.le_of_ble_eq_true rfl, Nat.le_of_ble_eq_true rfl⟩ ⟨rfl, rfl⟩ rfl rfl rfl (Nat.le_of_ble_eq_true rfl) ?_
        refine AR.istore (pc := 65) (L2 := [(7, .int (r7.1)), (0, .ref 0), (1, .int x1), (2, .int x2), (3, .int x3), (4, .int x4), (5, .int x5), (6, .int x6)]) dX9_bestIn_65 (by decide) rfl ?_
        refine AR.aload_n (pc := 67) (j := 1) dX9_bestIn_67 rfl rfl ?_
        refine AR.iload_n (pc := 68) (j := 4) dX9_bestIn_68 rfl rfl ?_
        refine AR.iload (pc := 69) (j := 7) dX9_bestIn_69 rfl ?_
        obtain ⟨r8, h8, h⟩ := bd_some h
        refine AR.callV (pc := 71) (As := [.int x3, .int x6]) (st := []) (ci := 9) dX9_bestIn_71 ⟨cd_X9_lengthAs, im_X9_lengthAs, se_X9_lengthAs, ini_X9⟩ ml_X9_238 (A9_lengthAs x3 x6 (r7.2) _ h8) ⟨rfl, pd_X9_lengthAs⟩ ⟨Nat.le_of_ble_eq_true rfl, Nat.le_of_ble_eq_true rfl⟩ ⟨rfl, rfl⟩ rfl rfl rfl (Nat.le_of_ble_eq_true rfl) ?_
        refine AR.aload_n (pc := 74) (j := 1) dX9_bestIn_74 rfl rfl ?_
        refine AR.iload_n (pc := 75) (j := 4) dX9_bestIn_75 rfl rfl ?_
        refine AR.iload (pc := 76) (j := 5) dX9_bestIn_76 rfl ?_
        obtain ⟨r9, h9, h⟩ := bd_some h
        refine AR.callV (pc := 78) (As := [.int x3, .int x4]) (st := [.int (r8.1)]) (ci := 9) dX9_bestIn_78 ⟨cd_X9_lengthAs, im_X9_lengthAs, se_X9_lengthAs, ini_X9⟩ ml_X9_238 (A9_lengthAs x3 x4 (r8.2) _ h9) ⟨rfl, pd_X9_lengthAs⟩ ⟨Nat.le_of_ble_eq_true rfl, Nat.le_of_ble_eq_true rfl⟩ ⟨rfl, rfl⟩ rfl rfl rfl (Nat.le_of_ble_eq_true rfl) ?_
        refine AR.isub (pc := 81) dX9_bestIn_81 ?_
        refine AR.istore (pc := 82) (L2 := [(8, .int ((r8.1) - (r9.1))), (7, .int (r7.1)), (0, .ref 0), (1, .int x1), (2, .int x2), (3, .int x3), (4, .int x4), (5, .int x5), (6, .int x6)]) dX9_bestIn_82 (by decide) rfl ?_
        refine AR.aload_n (pc := 84) (j := 2) dX9_bestIn_84 rfl rfl ?_
        refine AR.getf (pc := 85) (ci := 9) (j := 5) (d := 1 + 2) (v := .ref 1) (T := TX9) dX9_bestIn_85 rfl rfl rfl (by decide) (fun w hw => wsU_in (uw_X9 w hw)) (wsU_in fl_X9_7) rfl ?_
        refine AR.iload_n (pc := 88) (j := 5) dX9_bestIn_88 rfl rfl ?_
        obtain ⟨c10, h⟩ := gn_some h
        refine AR.iaload (pc := 89) dX9_bestIn_89 rfl c10 ?_
        refine AR.if_ne (pc := 90) (tgt := 106) dX9_bestIn_90 (by decide) (fun c11 => ?_) (fun c11 => ?_)
        · replace h := ite_f c11 h
          refine AR.iload (pc := 106) (j := 0) dX9_bestIn_106 rfl ?_
          refine AR.if_ge (pc := 108) (tgt := 115) dX9_bestIn_108 (by decide) (fun c12 => ?_) (fun c12 => ?_)
          · replace h := ite_t c12 h
            refine AR.iconst (pc := 115) (v := 0) dX9_bestIn_115 (by decide) ?_
            exact AR.pick [2, 3, 4, 5, 6, 7, 8, 1] rfl (A9_bestIn_116 k24 x1 x2 x3 x4 x5 x6 (r7.1) 0 hk24 (r9.2) r h)
          · replace h := ite_f c12 h
            refine AR.iconst (pc := 111) (v := 1) dX9_bestIn_111 (by decide) ?_
            refine AR.goto (pc := 112) (tgt := 116) dX9_bestIn_112 (by decide) ?_
            exact AR.pick [2, 3, 4, 5, 6, 7, 8, 1] rfl (A9_bestIn_116 k24 x1 x2 x3 x4 x5 x6 (r7.1) 1 hk24 (r9.2) r h)
        · replace h := ite_t c11 h
          refine AR.iload (pc := 93) (j := 0) dX9_bestIn_93 rfl ?_
          refine AR.if_le (pc := 95) (tgt := 102) dX9_bestIn_95 (by decide) (fun c13 => ?_) (fun c13 => ?_)
          · replace h := ite_t c13 h
            refine AR.iconst (pc := 102) (v := 0) dX9_bestIn_102 (by decide) ?_
            refine AR.goto (pc := 103) (tgt := 116) dX9_bestIn_103 (by decide) ?_
            exact AR.pick [2, 3, 4, 5, 6, 7, 8, 1] rfl (A9_bestIn_116 k24 x1 x2 x3 x4 x5 x6 (r7.1) 0 hk24 (r9.2) r h)
          · replace h := ite_f c13 h
            refine AR.iconst (pc := 98) (v := 1) dX9_bestIn_98 (by decide) ?_
            refine AR.goto (pc := 99) (tgt := 116) dX9_bestIn_99 (by decide) ?_
            exact AR.pick [2, 3, 4, 5, 6, 7, 8, 1] rfl (A9_bestIn_116 k24 x1 x2 x3 x4 x5 x6 (r7.1) 1 hk24 (r9.2) r h)
theorem A9_bestIn_24 {l : Launch} (x1 : Int32) (x2 : Int32) (x3 : Int32) (p : Int32 × Int32 × Int32 × HS) (r : Int32 × HS) (h : f9_bestIn_24 x1 x2 x3 p = some r) : AR l RX9 cX9_bestIn 10 (some .int) (wsU yX9_bestIn cX9_bestIn 10 (some .int)) rm9_bestIn SM 24 [(0, .ref 0), (1, .int x1), (2, .int x2), (3, .int x3), (4, .int (p.1)), (5, .int (p.2.1)), (6, .int (p.2.2.1))] [] p.2.2.2 (some (.int r.1), r.2) := by
  unfold f9_bestIn_24 at h
  exact wloop_run (body := fun k24 p => f9_bestIn_24_b k24 x1 x2 x3 p.1 p.2.1 p.2.2.1 p.2.2.2) (Q := fun p r => AR l RX9 cX9_bestIn 10 (some .int) (wsU yX9_bestIn cX9_bestIn 10 (some .int)) rm9_bestIn SM 24 [(0, .ref 0), (1, .int x1), (2, .int x2), (3, .int x3), (4, .int (p.1)), (5, .int (p.2.1)), (6, .int (p.2.2.1))] [] p.2.2.2 (some (.int r.1), r.2)) (fun k24 hk24 p r h => A9_bestIn_24_b k24 x1 x2 x3 p.1 p.2.1 p.2.2.1 hk24 p.2.2.2 r h) fuelN p r h
set_option maxHeartbeats 4000000 in
set_option maxRecDepth 100000 in
theorem A9_bestIn {l : Launch} (x1 : Int32) (x2 : Int32) (σ : HS) (r : Int32 × HS) (h : f9_bestIn x1 x2 σ = some r) : MA l yX9_bestIn (wsU yX9_bestIn cX9_bestIn 10 (some .int)) rm9_bestIn SM [.ref 0, .int x1, .int x2] σ (some (.int r.1), r.2) := by
  refine MA.of (L := [(0, .ref 0), (1, .int x1), (2, .int x2)]) pn_X9_bestIn rfl (fun _ => Nat.le_of_ble_eq_true rfl) (fun _ => rfl) ?_
  unfold f9_bestIn at h
  refine AR.aload_n (pc := 0) (j := 0) dX9_bestIn_0 rfl rfl ?_
  refine AR.iload_n (pc := 1) (j := 1) dX9_bestIn_1 rfl rfl ?_
  obtain ⟨r1, h1, h⟩ := bd_some h
  refine AR.callV (pc := 2) (As := [.int x1]) (st := []) (ci := 9) dX9_bestIn_2 ⟨cd_X9_speakerOf, im_X9_speakerOf, se_X9_speakerOf, ini_X9⟩ ml_X9_200 (A9_speakerOf x1 σ _ h1) ⟨rfl, pd_X9_speakerOf⟩ ⟨Nat.le_of_ble_eq_true rfl, Nat.le_of_ble_eq_true rfl⟩ ⟨rfl, rfl⟩ rfl rfl rfl (Nat.le_of_ble_eq_true rfl) ?_
  refine AR.istore_n (pc := 5) (L2 := [(3, .int (r1.1)), (0, .ref 0), (1, .int x1), (2, .int x2)]) dX9_bestIn_5 rfl (by decide) rfl ?_
  refine AR.bipush (pc := 6) (v := (-9)) dX9_bestIn_6 (by decide) ?_
  refine AR.istore (pc := 8) (L2 := [(4, .int (-9)), (3, .int (r1.1)), (0, .ref 0), (1, .int x1), (2, .int x2)]) dX9_bestIn_8 (by decide) rfl ?_
  refine AR.aload_n (pc := 10) (j := 2) dX9_bestIn_10 rfl rfl ?_
  refine AR.iload_n (pc := 11) (j := 3) dX9_bestIn_11 rfl rfl ?_
  refine AR.iload_n (pc := 12) (j := 4) dX9_bestIn_12 rfl rfl ?_
  refine AR.bipush (pc := 13) (v := (-9)) dX9_bestIn_13 (by decide) ?_
  refine AR.iload_n (pc := 15) (j := 1) dX9_bestIn_15 rfl rfl ?_
  obtain ⟨r2, h2, h⟩ := bd_some h
  refine AR.callV (pc := 16) (As := [.int x1, .int x2, .int (-9), .int (r1.1)]) (st := []) (ci := 9) dX9_bestIn_16 ⟨cd_X9_valueBy, im_X9_valueBy, se_X9_valueBy, ini_X9⟩ ml_X9_235 (A9_valueBy x1 x2 (-9) (r1.1) (r1.2) _ h2) ⟨rfl, pd_X9_valueBy⟩ ⟨Nat.le_of_ble_eq_true rfl, Nat.le_of_ble_eq_true rfl⟩ ⟨rfl, rfl⟩ rfl rfl rfl (Nat.le_of_ble_eq_true rfl) ?_
  refine AR.istore (pc := 19) (L2 := [(5, .int (r2.1)), (4, .int (-9)), (3, .int (r1.1)), (0, .ref 0), (1, .int x1), (2, .int x2)]) dX9_bestIn_19 (by decide) rfl ?_
  refine AR.iconst (pc := 21) (v := 0) dX9_bestIn_21 (by decide) ?_
  refine AR.istore (pc := 22) (L2 := [(6, .int 0), (5, .int (r2.1)), (4, .int (-9)), (3, .int (r1.1)), (0, .ref 0), (1, .int x1), (2, .int x2)]) dX9_bestIn_22 (by decide) rfl ?_
  exact AR.pick [4, 5, 6, 3, 2, 1, 0] rfl (A9_bestIn_24 x1 x2 (r1.1) ((-9), r2.1, 0, r2.2) r h)
noncomputable def f9_layChoices_75_b (k37 : Int32 × HS → Option (HS)) (k43 : Int32 × HS → Option (HS)) (k75 : Int32 × HS → Option (HS)) (x2 : Int32) (x3 : Int32) (x4 : Int32) (x5 : Int32) (σ : HS) : Option (HS) :=
  if ((σ.1 0 1) : Int32) ≤ x5 then
    k43 ((x3 + 1), σ)
  else
    bd (f9_valueBy x2 x3 x4 x5 σ) fun r2 =>
    if (((((100 * x2) + x3) * 5) + x5) : Int32) < 0 ∨ 3500 ≤ (((((100 * x2) + x3) * 5) + x5) : Int32).toNatClampNeg then none else
    k75 ((x5 + 1), (uI (r2.2) 16 (((((100 * x2) + x3) * 5) + x5) : Int32).toNatClampNeg (r2.1)))
noncomputable def f9_layChoices_75 (k37 : Int32 × HS → Option (HS)) (k43 : Int32 × HS → Option (HS)) (x2 : Int32) (x3 : Int32) (x4 : Int32) (p : Int32 × HS) : Option (HS) :=
  wloop (fun k75 p => f9_layChoices_75_b k37 k43 k75 x2 x3 x4 p.1 p.2) fuelN p
noncomputable def f9_layChoices_43_b (k37 : Int32 × HS → Option (HS)) (k43 : Int32 × HS → Option (HS)) (x2 : Int32) (x3 : Int32) (σ : HS) : Option (HS) :=
  if ((σ.1 0 2) : Int32) < x3 then
    k37 ((x2 + (-1)), σ)
  else
    bd (f9_bestIn x2 x3 σ) fun r2 =>
    if (((100 * x2) + x3) : Int32) < 0 ∨ 600 ≤ (((100 * x2) + x3) : Int32).toNatClampNeg then none else
    f9_layChoices_75 k37 k43 x2 x3 (r2.1) (0, (uI (r2.2) 15 (((100 * x2) + x3) : Int32).toNatClampNeg (r2.1)))
noncomputable def f9_layChoices_43 (k37 : Int32 × HS → Option (HS)) (x2 : Int32) (p : Int32 × HS) : Option (HS) :=
  wloop (fun k43 p => f9_layChoices_43_b k37 k43 x2 p.1 p.2) fuelN p
noncomputable def f9_layChoices_37_b (k37 : Int32 × HS → Option (HS)) (x2 : Int32) (σ : HS) : Option (HS) :=
  if (x2 : Int32) < 0 then
    some σ
  else
    f9_layChoices_43 k37 x2 (0, σ)
noncomputable def f9_layChoices_37 (p : Int32 × HS) : Option (HS) :=
  wloop (fun k37 p => f9_layChoices_37_b k37 p.1 p.2) fuelN p
noncomputable def f9_layChoices_7_b (k7 : Int32 × HS → Option (HS)) (x1 : Int32) (x2 : Int32) (σ : HS) : Option (HS) :=
  if (500 : Int32) ≤ x2 then
    f9_layChoices_37 ((x1 - 1), σ)
  else
    if (((500 * x1) + x2) : Int32) < 0 ∨ 3500 ≤ (((500 * x1) + x2) : Int32).toNatClampNeg then none else
    k7 ((x2 + 1), (uI σ 16 (((500 * x1) + x2) : Int32).toNatClampNeg 0))
noncomputable def f9_layChoices_7 (x1 : Int32) (p : Int32 × HS) : Option (HS) :=
  wloop (fun k7 p => f9_layChoices_7_b k7 x1 p.1 p.2) fuelN p
noncomputable def f9_layChoices (σ : HS) : Option (HS) :=
  bd (f9_turnsNow σ) fun r1 =>
  f9_layChoices_7 (r1.1) (0, r1.2)
set_option maxHeartbeats 4000000 in
set_option maxRecDepth 100000 in
theorem A9_layChoices_75_b {l : Launch} (k37 : Int32 × HS → Option (HS)) (k43 : Int32 × HS → Option (HS)) (k75 : Int32 × HS → Option (HS)) (x2 : Int32) (x3 : Int32) (x4 : Int32) (x5 : Int32) (hk37 : ∀ (p : Int32 × HS) (r : HS), k37 p = some r → AR l RX9 cX9_layChoices 6 none (wsU yX9_layChoices cX9_layChoices 6 none) rm9_layChoices SM 37 [(0, .ref 0), (2, .int (p.1))] [] p.2 (none, r)) (hk43 : ∀ (p : Int32 × HS) (r : HS), k43 p = some r → AR l RX9 cX9_layChoices 6 none (wsU yX9_layChoices cX9_layChoices 6 none) rm9_layChoices SM 43 [(0, .ref 0), (2, .int x2), (3, .int (p.1))] [] p.2 (none, r)) (hk75 : ∀ (p : Int32 × HS) (r : HS), k75 p = some r → AR l RX9 cX9_layChoices 6 none (wsU yX9_layChoices cX9_layChoices 6 none) rm9_layChoices SM 75 [(0, .ref 0), (2, .int x2), (3, .int x3), (4, .int x4), (5, .int (p.1))] [] p.2 (none, r)) (σ : HS) (r : HS) (h : f9_layChoices_75_b k37 k43 k75 x2 x3 x4 x5 σ = some r) : AR l RX9 cX9_layChoices 6 none (wsU yX9_layChoices cX9_layChoices 6 none) rm9_layChoices SM 75 [(0, .ref 0), (2, .int x2), (3, .int x3), (4, .int x4), (5, .int x5)] [] σ (none, r) := by
  unfold f9_layChoices_75_b at h
  refine AR.iload (pc := 75) (j := 4) dX9_layChoices_75 rfl ?_
  refine AR.aload_n (pc := 77) (j := 0) dX9_layChoices_77 rfl rfl ?_
  refine AR.getf (pc := 78) (ci := 9) (j := 1) (d := 0) (v := .int (σ.1 0 1)) (T := TX9) dX9_layChoices_78 rfl rfl rfl (by decide) (fun w hw => wsU_in (uw_X9 w hw)) (wsU_in fl_X9_113) rfl ?_
  refine AR.icmp_ge (pc := 81) (tgt := 116) dX9_layChoices_81 (by decide) (fun c1 => ?_) (fun c1 => ?_)
  · replace h := ite_t c1 h
    refine AR.iinc (pc := 116) (j := 2) (v := (x3 + 1)) (L2 := [(3, .int (x3 + 1)), (0, .ref 0), (2, .int x2), (4, .int x4), (5, .int x5)]) dX9_layChoices_116 rfl rfl (by decide) rfl ?_
    refine AR.goto (pc := 119) (tgt := 43) dX9_layChoices_119 (by decide) ?_
    exact AR.pick [1, 2, 0] rfl (hk43 ((x3 + 1), σ) r h)
  · replace h := ite_f c1 h
    refine AR.aload_n (pc := 84) (j := 0) dX9_layChoices_84 rfl rfl ?_
    refine AR.getf (pc := 85) (ci := 9) (j := 26) (d := 16 + 2) (v := .ref 16) (T := TX9) dX9_layChoices_85 rfl rfl rfl (by decide) (fun w hw => wsU_in (uw_X9 w hw)) (wsU_in fl_X9_55) rfl ?_
    refine AR.bipush (pc := 88) (v := 100) dX9_layChoices_88 (by decide) ?_
    refine AR.iload_n (pc := 90) (j := 1) dX9_layChoices_90 rfl rfl ?_
    refine AR.imul (pc := 91) dX9_layChoices_91 ?_
    refine AR.iload_n (pc := 92) (j := 2) dX9_layChoices_92 rfl rfl ?_
    refine AR.iadd (pc := 93) dX9_layChoices_93 ?_
    refine AR.iconst (pc := 94) (v := 5) dX9_layChoices_94 (by decide) ?_
    refine AR.imul (pc := 95) dX9_layChoices_95 ?_
    refine AR.iload (pc := 96) (j := 4) dX9_layChoices_96 rfl ?_
    refine AR.iadd (pc := 98) dX9_layChoices_98 ?_
    refine AR.aload_n (pc := 99) (j := 0) dX9_layChoices_99 rfl rfl ?_
    refine AR.iload_n (pc := 100) (j := 1) dX9_layChoices_100 rfl rfl ?_
    refine AR.iload_n (pc := 101) (j := 2) dX9_layChoices_101 rfl rfl ?_
    refine AR.iload (pc := 102) (j := 3) dX9_layChoices_102 rfl ?_
    refine AR.iload (pc := 104) (j := 4) dX9_layChoices_104 rfl ?_
    obtain ⟨r2, h2, h⟩ := bd_some h
    refine AR.callV (pc := 106) (As := [.int x2, .int x3, .int x4, .int x5]) (st := [.int ((((100 * x2) + x3) * 5) + x5), .ref 16]) (ci := 9) dX9_layChoices_106 ⟨cd_X9_valueBy, im_X9_valueBy, se_X9_valueBy, ini_X9⟩ ml_X9_235 (A9_valueBy x2 x3 x4 x5 σ _ h2) ⟨rfl, pd_X9_valueBy⟩ ⟨Nat.le_of_ble_eq_true rfl, Nat.le_of_ble_eq_true rfl⟩ ⟨rfl, rfl⟩ rfl rfl rfl (Nat.le_of_ble_eq_true rfl) ?_
    obtain ⟨c3, h⟩ := gn_some h
    refine AR.iastore (pc := 109) dX9_layChoices_109 rfl c3 ?_
    refine AR.iinc (pc := 110) (j := 4) (v := (x5 + 1)) (L2 := [(5, .int (x5 + 1)), (0, .ref 0), (2, .int x2), (3, .int x3), (4, .int x4)]) dX9_layChoices_110 rfl rfl (by decide) rfl ?_
    refine AR.goto (pc := 113) (tgt := 75) dX9_layChoices_113 (by decide) ?_
    exact AR.pick [1, 2, 3, 4, 0] rfl (hk75 ((x5 + 1), (uI (r2.2) 16 (((((100 * x2) + x3) * 5) + x5) : Int32).toNatClampNeg (r2.1))) r h)
theorem A9_layChoices_75 {l : Launch} (k37 : Int32 × HS → Option (HS)) (k43 : Int32 × HS → Option (HS)) (x2 : Int32) (x3 : Int32) (x4 : Int32) (hk37 : ∀ (p : Int32 × HS) (r : HS), k37 p = some r → AR l RX9 cX9_layChoices 6 none (wsU yX9_layChoices cX9_layChoices 6 none) rm9_layChoices SM 37 [(0, .ref 0), (2, .int (p.1))] [] p.2 (none, r)) (hk43 : ∀ (p : Int32 × HS) (r : HS), k43 p = some r → AR l RX9 cX9_layChoices 6 none (wsU yX9_layChoices cX9_layChoices 6 none) rm9_layChoices SM 43 [(0, .ref 0), (2, .int x2), (3, .int (p.1))] [] p.2 (none, r)) (p : Int32 × HS) (r : HS) (h : f9_layChoices_75 k37 k43 x2 x3 x4 p = some r) : AR l RX9 cX9_layChoices 6 none (wsU yX9_layChoices cX9_layChoices 6 none) rm9_layChoices SM 75 [(0, .ref 0), (2, .int x2), (3, .int x3), (4, .int x4), (5, .int (p.1))] [] p.2 (none, r) := by
  unfold f9_layChoices_75 at h
  exact wloop_run (body := fun k75 p => f9_layChoices_75_b k37 k43 k75 x2 x3 x4 p.1 p.2) (Q := fun p r => AR l RX9 cX9_layChoices 6 none (wsU yX9_layChoices cX9_layChoices 6 none) rm9_layChoices SM 75 [(0, .ref 0), (2, .int x2), (3, .int x3), (4, .int x4), (5, .int (p.1))] [] p.2 (none, r)) (fun k75 hk75 p r h => A9_layChoices_75_b k37 k43 k75 x2 x3 x4 p.1 hk37 hk43 hk75 p.2 r h) fuelN p r h
set_option maxHeartbeats 4000000 in
set_option maxRecDepth 100000 in
theorem A9_layChoices_43_b {l : Launch} (k37 : Int32 × HS → Option (HS)) (k43 : Int32 × HS → Option (HS)) (x2 : Int32) (x3 : Int32) (hk37 : ∀ (p : Int32 × HS) (r : HS), k37 p = some r → AR l RX9 cX9_layChoices 6 none (wsU yX9_layChoices cX9_layChoices 6 none) rm9_layChoices SM 37 [(0, .ref 0), (2, .int (p.1))] [] p.2 (none, r)) (hk43 : ∀ (p : Int32 × HS) (r : HS), k43 p = some r → AR l RX9 cX9_layChoices 6 none (wsU yX9_layChoices cX9_layChoices 6 none) rm9_layChoices SM 43 [(0, .ref 0), (2, .int x2), (3, .int (p.1))] [] p.2 (none, r)) (σ : HS) (r : HS) (h : f9_layChoices_43_b k37 k43 x2 x3 σ = some r) : AR l RX9 cX9_layChoices 6 none (wsU yX9_layChoices cX9_layChoices 6 none) rm9_layChoices SM 43 [(0, .ref 0), (2, .int x2), (3, .int x3)] [] σ (none, r) := by
  unfold f9_layChoices_43_b at h
  refine AR.iload_n (pc := 43) (j := 2) dX9_layChoices_43 rfl rfl ?_
  refine AR.aload_n (pc := 44) (j := 0) dX9_layChoices_44 rfl rfl ?_
  refine AR.getf (pc := 45) (ci := 9) (j := 2) (d := 0) (v := .int (σ.1 0 2)) (T := TX9) dX9_layChoices_45 rfl rfl rfl (by decide) (fun w hw => wsU_in (uw_X9 w hw)) (wsU_in fl_X9_167) rfl ?_
  refine AR.icmp_gt (pc := 48) (tgt := 122) dX9_layChoices_48 (by decide) (fun c1 => ?_) (fun c1 => ?_)
  · replace h := ite_t c1 h
    refine AR.iinc (pc := 122) (j := 1) (v := (x2 + (-1))) (L2 := [(2, .int (x2 + (-1))), (0, .ref 0), (3, .int x3)]) dX9_layChoices_122 rfl rfl (by decide) rfl ?_
    refine AR.goto (pc := 125) (tgt := 37) dX9_layChoices_125 (by decide) ?_
    exact AR.pick [1, 0] rfl (hk37 ((x2 + (-1)), σ) r h)
  · replace h := ite_f c1 h
    refine AR.aload_n (pc := 51) (j := 0) dX9_layChoices_51 rfl rfl ?_
    refine AR.iload_n (pc := 52) (j := 1) dX9_layChoices_52 rfl rfl ?_
    refine AR.iload_n (pc := 53) (j := 2) dX9_layChoices_53 rfl rfl ?_
    obtain ⟨r2, h2, h⟩ := bd_some h
    refine AR.callV (pc := 54) (As := [.int x2, .int x3]) (st := []) (ci := 9) dX9_layChoices_54 ⟨cd_X9_bestIn, im_X9_bestIn, se_X9_bestIn, ini_X9⟩ ml_X9_241 (A9_bestIn x2 x3 σ _ h2) ⟨rfl, pd_X9_bestIn⟩ ⟨Nat.le_of_ble_eq_true rfl, Nat.le_of_ble_eq_true rfl⟩ ⟨rfl, rfl⟩ rfl rfl rfl (Nat.le_of_ble_eq_true rfl) ?_
    refine AR.istore (pc := 57) (L2 := [(4, .int (r2.1)), (0, .ref 0), (2, .int x2), (3, .int x3)]) dX9_layChoices_57 (by decide) rfl ?_
    refine AR.aload_n (pc := 59) (j := 1) dX9_layChoices_59 rfl rfl ?_
    refine AR.getf (pc := 60) (ci := 9) (j := 25) (d := 15 + 2) (v := .ref 15) (T := TX9) dX9_layChoices_60 rfl rfl rfl (by decide) (fun w hw => wsU_in (uw_X9 w hw)) (wsU_in fl_X9_52) rfl ?_
    refine AR.bipush (pc := 63) (v := 100) dX9_layChoices_63 (by decide) ?_
    refine AR.iload_n (pc := 65) (j := 2) dX9_layChoices_65 rfl rfl ?_
    refine AR.imul (pc := 66) dX9_layChoices_66 ?_
    refine AR.iload_n (pc := 67) (j := 3) dX9_layChoices_67 rfl rfl ?_
    refine AR.iadd (pc := 68) dX9_layChoices_68 ?_
    refine AR.iload (pc := 69) (j := 0) dX9_layChoices_69 rfl ?_
    obtain ⟨c3, h⟩ := gn_some h
    refine AR.iastore (pc := 71) dX9_layChoices_71 rfl c3 ?_
    refine AR.iconst (pc := 72) (v := 0) dX9_layChoices_72 (by decide) ?_
    refine AR.istore (pc := 73) (L2 := [(5, .int 0), (4, .int (r2.1)), (0, .ref 0), (2, .int x2), (3, .int x3)]) dX9_layChoices_73 (by decide) rfl ?_
    exact AR.pick [2, 3, 4, 1, 0] rfl (A9_layChoices_75 k37 k43 x2 x3 (r2.1) hk37 hk43 (0, (uI (r2.2) 15 (((100 * x2) + x3) : Int32).toNatClampNeg (r2.1))) r h)
theorem A9_layChoices_43 {l : Launch} (k37 : Int32 × HS → Option (HS)) (x2 : Int32) (hk37 : ∀ (p : Int32 × HS) (r : HS), k37 p = some r → AR l RX9 cX9_layChoices 6 none (wsU yX9_layChoices cX9_layChoices 6 none) rm9_layChoices SM 37 [(0, .ref 0), (2, .int (p.1))] [] p.2 (none, r)) (p : Int32 × HS) (r : HS) (h : f9_layChoices_43 k37 x2 p = some r) : AR l RX9 cX9_layChoices 6 none (wsU yX9_layChoices cX9_layChoices 6 none) rm9_layChoices SM 43 [(0, .ref 0), (2, .int x2), (3, .int (p.1))] [] p.2 (none, r) := by
  unfold f9_layChoices_43 at h
  exact wloop_run (body := fun k43 p => f9_layChoices_43_b k37 k43 x2 p.1 p.2) (Q := fun p r => AR l RX9 cX9_layChoices 6 none (wsU yX9_layChoices cX9_layChoices 6 none) rm9_layChoices SM 43 [(0, .ref 0), (2, .int x2), (3, .int (p.1))] [] p.2 (none, r)) (fun k43 hk43 p r h => A9_layChoices_43_b k37 k43 x2 p.1 hk37 hk43 p.2 r h) fuelN p r h
set_option maxHeartbeats 4000000 in
set_option maxRecDepth 100000 in
theorem A9_layChoices_37_b {l : Launch} (k37 : Int32 × HS → Option (HS)) (x2 : Int32) (hk37 : ∀ (p : Int32 × HS) (r : HS), k37 p = some r → AR l RX9 cX9_layChoices 6 none (wsU yX9_layChoices cX9_layChoices 6 none) rm9_layChoices SM 37 [(0, .ref 0), (2, .int (p.1))] [] p.2 (none, r)) (σ : HS) (r : HS) (h : f9_layChoices_37_b k37 x2 σ = some r) : AR l RX9 cX9_layChoices 6 none (wsU yX9_layChoices cX9_layChoices 6 none) rm9_layChoices SM 37 [(0, .ref 0), (2, .int x2)] [] σ (none, r) := by
  unfold f9_layChoices_37_b at h
  refine AR.iload_n (pc := 37) (j := 1) dX9_layChoices_37 rfl rfl ?_
  refine AR.if_lt (pc := 38) (tgt := 128) dX9_layChoices_38 (by decide) (fun c1 => ?_) (fun c1 => ?_)
  · replace h := ite_t c1 h
    exact AR.vret (pc := 128) rfl dX9_layChoices_128 (hrV (Option.some.inj h))
  · replace h := ite_f c1 h
    refine AR.iconst (pc := 41) (v := 0) dX9_layChoices_41 (by decide) ?_
    refine AR.istore_n (pc := 42) (L2 := [(3, .int 0), (0, .ref 0), (2, .int x2)]) dX9_layChoices_42 rfl (by decide) rfl ?_
    exact AR.pick [1, 2, 0] rfl (A9_layChoices_43 k37 x2 hk37 (0, σ) r h)
theorem A9_layChoices_37 {l : Launch} (p : Int32 × HS) (r : HS) (h : f9_layChoices_37 p = some r) : AR l RX9 cX9_layChoices 6 none (wsU yX9_layChoices cX9_layChoices 6 none) rm9_layChoices SM 37 [(0, .ref 0), (2, .int (p.1))] [] p.2 (none, r) := by
  unfold f9_layChoices_37 at h
  exact wloop_run (body := fun k37 p => f9_layChoices_37_b k37 p.1 p.2) (Q := fun p r => AR l RX9 cX9_layChoices 6 none (wsU yX9_layChoices cX9_layChoices 6 none) rm9_layChoices SM 37 [(0, .ref 0), (2, .int (p.1))] [] p.2 (none, r)) (fun k37 hk37 p r h => A9_layChoices_37_b k37 p.1 hk37 p.2 r h) fuelN p r h
set_option maxHeartbeats 4000000 in
set_option maxRecDepth 100000 in
theorem A9_layChoices_7_b {l : Launch} (k7 : Int32 × HS → Option (HS)) (x1 : Int32) (x2 : Int32) (hk7 : ∀ (p : Int32 × HS) (r : HS), k7 p = some r → AR l RX9 cX9_layChoices 6 none (wsU yX9_layChoices cX9_layChoices 6 none) rm9_layChoices SM 7 [(0, .ref 0), (1, .int x1), (2, .int (p.1))] [] p.2 (none, r)) (σ : HS) (r : HS) (h : f9_layChoices_7_b k7 x1 x2 σ = some r) : AR l RX9 cX9_layChoices 6 none (wsU yX9_layChoices cX9_layChoices 6 none) rm9_layChoices SM 7 [(0, .ref 0), (1, .int x1), (2, .int x2)] [] σ (none, r) := by
  unfold f9_layChoices_7_b at h
  refine AR.iload_n (pc := 7) (j := 2) dX9_layChoices_7 rfl rfl ?_
  refine AR.sipush (pc := 8) (v := 500) dX9_layChoices_8 (by decide) ?_
  refine AR.icmp_ge (pc := 11) (tgt := 33) dX9_layChoices_11 (by decide) (fun c1 => ?_) (fun c1 => ?_)
  · replace h := ite_t c1 h
    refine AR.iload_n (pc := 33) (j := 1) dX9_layChoices_33 rfl rfl ?_
    refine AR.iconst (pc := 34) (v := 1) dX9_layChoices_34 (by decide) ?_
    refine AR.isub (pc := 35) dX9_layChoices_35 ?_
    refine AR.istore_n (pc := 36) (L2 := [(2, .int (x1 - 1)), (0, .ref 0), (1, .int x1)]) dX9_layChoices_36 rfl (by decide) rfl ?_
    exact AR.pick [1, 0] rfl (A9_layChoices_37 ((x1 - 1), σ) r h)
  · replace h := ite_f c1 h
    refine AR.aload_n (pc := 14) (j := 0) dX9_layChoices_14 rfl rfl ?_
    refine AR.getf (pc := 15) (ci := 9) (j := 26) (d := 16 + 2) (v := .ref 16) (T := TX9) dX9_layChoices_15 rfl rfl rfl (by decide) (fun w hw => wsU_in (uw_X9 w hw)) (wsU_in fl_X9_55) rfl ?_
    refine AR.sipush (pc := 18) (v := 500) dX9_layChoices_18 (by decide) ?_
    refine AR.iload_n (pc := 21) (j := 1) dX9_layChoices_21 rfl rfl ?_
    refine AR.imul (pc := 22) dX9_layChoices_22 ?_
    refine AR.iload_n (pc := 23) (j := 2) dX9_layChoices_23 rfl rfl ?_
    refine AR.iadd (pc := 24) dX9_layChoices_24 ?_
    refine AR.iconst (pc := 25) (v := 0) dX9_layChoices_25 (by decide) ?_
    obtain ⟨c2, h⟩ := gn_some h
    refine AR.iastore (pc := 26) dX9_layChoices_26 rfl c2 ?_
    refine AR.iinc (pc := 27) (j := 2) (v := (x2 + 1)) (L2 := [(2, .int (x2 + 1)), (0, .ref 0), (1, .int x1)]) dX9_layChoices_27 rfl rfl (by decide) rfl ?_
    refine AR.goto (pc := 30) (tgt := 7) dX9_layChoices_30 (by decide) ?_
    exact AR.pick [1, 2, 0] rfl (hk7 ((x2 + 1), (uI σ 16 (((500 * x1) + x2) : Int32).toNatClampNeg 0)) r h)
theorem A9_layChoices_7 {l : Launch} (x1 : Int32) (p : Int32 × HS) (r : HS) (h : f9_layChoices_7 x1 p = some r) : AR l RX9 cX9_layChoices 6 none (wsU yX9_layChoices cX9_layChoices 6 none) rm9_layChoices SM 7 [(0, .ref 0), (1, .int x1), (2, .int (p.1))] [] p.2 (none, r) := by
  unfold f9_layChoices_7 at h
  exact wloop_run (body := fun k7 p => f9_layChoices_7_b k7 x1 p.1 p.2) (Q := fun p r => AR l RX9 cX9_layChoices 6 none (wsU yX9_layChoices cX9_layChoices 6 none) rm9_layChoices SM 7 [(0, .ref 0), (1, .int x1), (2, .int (p.1))] [] p.2 (none, r)) (fun k7 hk7 p r h => A9_layChoices_7_b k7 x1 p.1 hk7 p.2 r h) fuelN p r h
set_option maxHeartbeats 4000000 in
set_option maxRecDepth 100000 in
theorem A9_layChoices {l : Launch} (σ : HS) (r : HS) (h : f9_layChoices σ = some r) : MA l yX9_layChoices (wsU yX9_layChoices cX9_layChoices 6 none) rm9_layChoices SM [.ref 0] σ (none, r) := by
  refine MA.of (L := [(0, .ref 0)]) pn_X9_layChoices rfl (fun _ => Nat.le_of_ble_eq_true rfl) (fun _ => rfl) ?_
  unfold f9_layChoices at h
  refine AR.aload_n (pc := 0) (j := 0) dX9_layChoices_0 rfl rfl ?_
  obtain ⟨r1, h1, h⟩ := bd_some h
  refine AR.callV (pc := 1) (As := []) (st := []) (ci := 9) dX9_layChoices_1 ⟨cd_X9_turnsNow, im_X9_turnsNow, se_X9_turnsNow, ini_X9⟩ ml_X9_215 (A9_turnsNow σ _ h1) ⟨rfl, pd_X9_turnsNow⟩ ⟨Nat.le_of_ble_eq_true rfl, Nat.le_of_ble_eq_true rfl⟩ ⟨rfl, rfl⟩ rfl rfl rfl (Nat.le_of_ble_eq_true rfl) ?_
  refine AR.istore_n (pc := 4) (L2 := [(1, .int (r1.1)), (0, .ref 0)]) dX9_layChoices_4 rfl (by decide) rfl ?_
  refine AR.iconst (pc := 5) (v := 0) dX9_layChoices_5 (by decide) ?_
  refine AR.istore_n (pc := 6) (L2 := [(2, .int 0), (1, .int (r1.1)), (0, .ref 0)]) dX9_layChoices_6 rfl (by decide) rfl ?_
  exact AR.pick [2, 1, 0] rfl (A9_layChoices_7 (r1.1) (0, r1.2) r h)
noncomputable def f9_goDay_41 (k6 : Int32 × HS → Option (HS)) (x1 : Int32) (x2 : Int32) (x3 : Int32) (z0 : Int32) (z1 : Int32) (σ : HS) : Option (HS) :=
  bd (f9_goTurn z1 z0 (σ.1 0 3) σ) fun r1 =>
  k6 ((x3 + 1), r1)
noncomputable def f9_goDay_6_b (k6 : Int32 × HS → Option (HS)) (x1 : Int32) (x2 : Int32) (x3 : Int32) (σ : HS) : Option (HS) :=
  bd (f9_turnsNow σ) fun r1 =>
  if (r1.1 : Int32) ≤ x3 then
    some (r1.2)
  else
    if (x3 : Int32) = x1 then
      f9_goDay_41 k6 x1 x2 x3 x2 x3 (r1.2)
    else
      if (x3 : Int32) < 0 ∨ 7 ≤ (x3 : Int32).toNatClampNeg then none else
      if (((100 * x3) + ((r1.2).1 13 (x3 : Int32).toNatClampNeg)) : Int32) < 0 ∨ 600 ≤ (((100 * x3) + ((r1.2).1 13 (x3 : Int32).toNatClampNeg)) : Int32).toNatClampNeg then none else
      f9_goDay_41 k6 x1 x2 x3 ((r1.2).1 15 (((100 * x3) + ((r1.2).1 13 (x3 : Int32).toNatClampNeg)) : Int32).toNatClampNeg) x3 (r1.2)
noncomputable def f9_goDay_6 (x1 : Int32) (x2 : Int32) (p : Int32 × HS) : Option (HS) :=
  wloop (fun k6 p => f9_goDay_6_b k6 x1 x2 p.1 p.2) fuelN p
noncomputable def f9_goDay (x1 : Int32) (x2 : Int32) (σ : HS) : Option (HS) :=
  bd (f9_beginDay σ) fun r1 =>
  f9_goDay_6 x1 x2 (0, r1)
set_option maxHeartbeats 4000000 in
set_option maxRecDepth 100000 in
theorem A9_goDay_41 {l : Launch} (k6 : Int32 × HS → Option (HS)) (x1 : Int32) (x2 : Int32) (x3 : Int32) (z0 : Int32) (z1 : Int32) (hk6 : ∀ (p : Int32 × HS) (r : HS), k6 p = some r → AR l RX9 cX9_goDay 4 none (wsU yX9_goDay cX9_goDay 4 none) rm9_goDay SM 6 [(0, .ref 0), (1, .int x1), (2, .int x2), (3, .int (p.1))] [] p.2 (none, r)) (σ : HS) (r : HS) (h : f9_goDay_41 k6 x1 x2 x3 z0 z1 σ = some r) : AR l RX9 cX9_goDay 4 none (wsU yX9_goDay cX9_goDay 4 none) rm9_goDay SM 41 [(0, .ref 0), (1, .int x1), (2, .int x2), (3, .int x3)] [.int z0, .int z1, .ref 0] σ (none, r) := by
  unfold f9_goDay_41 at h
  refine AR.aload_n (pc := 41) (j := 0) dX9_goDay_41 rfl rfl ?_
  refine AR.getf (pc := 42) (ci := 9) (j := 3) (d := 0) (v := .int (σ.1 0 3)) (T := TX9) dX9_goDay_42 rfl rfl rfl (by decide) (fun w hw => wsU_in (uw_X9 w hw)) (wsU_in fl_X9_170) rfl ?_
  obtain ⟨r1, h1, h⟩ := bd_some h
  refine AR.callV (pc := 45) (As := [.int z1, .int z0, .int (σ.1 0 3)]) (st := []) (ci := 9) dX9_goDay_45 ⟨cd_X9_goTurn, im_X9_goTurn, se_X9_goTurn, ini_X9⟩ ml_X9_224 (A9_goTurn z1 z0 (σ.1 0 3) σ _ h1) ⟨rfl, pd_X9_goTurn⟩ ⟨Nat.le_of_ble_eq_true rfl, Nat.le_of_ble_eq_true rfl⟩ ⟨rfl, rfl⟩ rfl rfl rfl (Nat.le_of_ble_eq_true rfl) ?_
  refine AR.iinc (pc := 48) (j := 3) (v := (x3 + 1)) (L2 := [(3, .int (x3 + 1)), (0, .ref 0), (1, .int x1), (2, .int x2)]) dX9_goDay_48 rfl rfl (by decide) rfl ?_
  refine AR.goto (pc := 51) (tgt := 6) dX9_goDay_51 (by decide) ?_
  exact AR.pick [1, 2, 3, 0] rfl (hk6 ((x3 + 1), r1) r h)
set_option maxHeartbeats 4000000 in
set_option maxRecDepth 100000 in
theorem A9_goDay_6_b {l : Launch} (k6 : Int32 × HS → Option (HS)) (x1 : Int32) (x2 : Int32) (x3 : Int32) (hk6 : ∀ (p : Int32 × HS) (r : HS), k6 p = some r → AR l RX9 cX9_goDay 4 none (wsU yX9_goDay cX9_goDay 4 none) rm9_goDay SM 6 [(0, .ref 0), (1, .int x1), (2, .int x2), (3, .int (p.1))] [] p.2 (none, r)) (σ : HS) (r : HS) (h : f9_goDay_6_b k6 x1 x2 x3 σ = some r) : AR l RX9 cX9_goDay 4 none (wsU yX9_goDay cX9_goDay 4 none) rm9_goDay SM 6 [(0, .ref 0), (1, .int x1), (2, .int x2), (3, .int x3)] [] σ (none, r) := by
  unfold f9_goDay_6_b at h
  refine AR.iload_n (pc := 6) (j := 3) dX9_goDay_6 rfl rfl ?_
  refine AR.aload_n (pc := 7) (j := 0) dX9_goDay_7 rfl rfl ?_
  obtain ⟨r1, h1, h⟩ := bd_some h
  refine AR.callV (pc := 8) (As := []) (st := [.int x3]) (ci := 9) dX9_goDay_8 ⟨cd_X9_turnsNow, im_X9_turnsNow, se_X9_turnsNow, ini_X9⟩ ml_X9_215 (A9_turnsNow σ _ h1) ⟨rfl, pd_X9_turnsNow⟩ ⟨Nat.le_of_ble_eq_true rfl, Nat.le_of_ble_eq_true rfl⟩ ⟨rfl, rfl⟩ rfl rfl rfl (Nat.le_of_ble_eq_true rfl) ?_
  refine AR.icmp_ge (pc := 11) (tgt := 54) dX9_goDay_11 (by decide) (fun c2 => ?_) (fun c2 => ?_)
  · replace h := ite_t c2 h
    exact AR.vret (pc := 54) rfl dX9_goDay_54 (hrV (Option.some.inj h))
  · replace h := ite_f c2 h
    refine AR.aload_n (pc := 14) (j := 0) dX9_goDay_14 rfl rfl ?_
    refine AR.iload_n (pc := 15) (j := 3) dX9_goDay_15 rfl rfl ?_
    refine AR.iload_n (pc := 16) (j := 3) dX9_goDay_16 rfl rfl ?_
    refine AR.iload_n (pc := 17) (j := 1) dX9_goDay_17 rfl rfl ?_
    refine AR.icmp_ne (pc := 18) (tgt := 25) dX9_goDay_18 (by decide) (fun c3 => ?_) (fun c3 => ?_)
    · replace h := ite_f c3 h
      refine AR.aload_n (pc := 25) (j := 0) dX9_goDay_25 rfl rfl ?_
      refine AR.getf (pc := 26) (ci := 9) (j := 25) (d := 15 + 2) (v := .ref 15) (T := TX9) dX9_goDay_26 rfl rfl rfl (by decide) (fun w hw => wsU_in (uw_X9 w hw)) (wsU_in fl_X9_52) rfl ?_
      refine AR.bipush (pc := 29) (v := 100) dX9_goDay_29 (by decide) ?_
      refine AR.iload_n (pc := 31) (j := 3) dX9_goDay_31 rfl rfl ?_
      refine AR.imul (pc := 32) dX9_goDay_32 ?_
      refine AR.aload_n (pc := 33) (j := 0) dX9_goDay_33 rfl rfl ?_
      refine AR.getf (pc := 34) (ci := 9) (j := 21) (d := 13 + 2) (v := .ref 13) (T := TX9) dX9_goDay_34 rfl rfl rfl (by decide) (fun w hw => wsU_in (uw_X9 w hw)) (wsU_in fl_X9_46) rfl ?_
      refine AR.iload_n (pc := 37) (j := 3) dX9_goDay_37 rfl rfl ?_
      obtain ⟨c4, h⟩ := gn_some h
      refine AR.iaload (pc := 38) dX9_goDay_38 rfl c4 ?_
      refine AR.iadd (pc := 39) dX9_goDay_39 ?_
      obtain ⟨c5, h⟩ := gn_some h
      refine AR.iaload (pc := 40) dX9_goDay_40 rfl c5 ?_
      exact AR.pick [0, 1, 2, 3] rfl (A9_goDay_41 k6 x1 x2 x3 ((r1.2).1 15 (((100 * x3) + ((r1.2).1 13 (x3 : Int32).toNatClampNeg)) : Int32).toNatClampNeg) x3 hk6 (r1.2) r h)
    · replace h := ite_t c3 h
      refine AR.iload_n (pc := 21) (j := 2) dX9_goDay_21 rfl rfl ?_
      refine AR.goto (pc := 22) (tgt := 41) dX9_goDay_22 (by decide) ?_
      exact AR.pick [0, 1, 2, 3] rfl (A9_goDay_41 k6 x1 x2 x3 x2 x3 hk6 (r1.2) r h)
theorem A9_goDay_6 {l : Launch} (x1 : Int32) (x2 : Int32) (p : Int32 × HS) (r : HS) (h : f9_goDay_6 x1 x2 p = some r) : AR l RX9 cX9_goDay 4 none (wsU yX9_goDay cX9_goDay 4 none) rm9_goDay SM 6 [(0, .ref 0), (1, .int x1), (2, .int x2), (3, .int (p.1))] [] p.2 (none, r) := by
  unfold f9_goDay_6 at h
  exact wloop_run (body := fun k6 p => f9_goDay_6_b k6 x1 x2 p.1 p.2) (Q := fun p r => AR l RX9 cX9_goDay 4 none (wsU yX9_goDay cX9_goDay 4 none) rm9_goDay SM 6 [(0, .ref 0), (1, .int x1), (2, .int x2), (3, .int (p.1))] [] p.2 (none, r)) (fun k6 hk6 p r h => A9_goDay_6_b k6 x1 x2 p.1 hk6 p.2 r h) fuelN p r h
set_option maxHeartbeats 4000000 in
set_option maxRecDepth 100000 in
theorem A9_goDay {l : Launch} (x1 : Int32) (x2 : Int32) (σ : HS) (r : HS) (h : f9_goDay x1 x2 σ = some r) : MA l yX9_goDay (wsU yX9_goDay cX9_goDay 4 none) rm9_goDay SM [.ref 0, .int x1, .int x2] σ (none, r) := by
  refine MA.of (L := [(0, .ref 0), (1, .int x1), (2, .int x2)]) pn_X9_goDay rfl (fun _ => Nat.le_of_ble_eq_true rfl) (fun _ => rfl) ?_
  unfold f9_goDay at h
  refine AR.aload_n (pc := 0) (j := 0) dX9_goDay_0 rfl rfl ?_
  obtain ⟨r1, h1, h⟩ := bd_some h
  refine AR.callV (pc := 1) (As := []) (st := []) (ci := 9) dX9_goDay_1 ⟨cd_X9_beginDay, im_X9_beginDay, se_X9_beginDay, ini_X9⟩ ml_X9_221 (A9_beginDay σ _ h1) ⟨rfl, pd_X9_beginDay⟩ ⟨Nat.le_of_ble_eq_true rfl, Nat.le_of_ble_eq_true rfl⟩ ⟨rfl, rfl⟩ rfl rfl rfl (Nat.le_of_ble_eq_true rfl) ?_
  refine AR.iconst (pc := 4) (v := 0) dX9_goDay_4 (by decide) ?_
  refine AR.istore_n (pc := 5) (L2 := [(3, .int 0), (0, .ref 0), (1, .int x1), (2, .int x2)]) dX9_goDay_5 rfl (by decide) rfl ?_
  exact AR.pick [1, 2, 3, 0] rfl (A9_goDay_6 x1 x2 (0, r1) r h)
noncomputable def f9_goFree (σ : HS) : Option (HS) :=
  bd (f9_layChoices σ) fun r1 =>
  bd (f9_goDay (-7) (-9) r1) fun r2 =>
  some r2
set_option maxHeartbeats 4000000 in
set_option maxRecDepth 100000 in
theorem A9_goFree {l : Launch} (σ : HS) (r : HS) (h : f9_goFree σ = some r) : MA l yX9_goFree (wsU yX9_goFree cX9_goFree 1 none) rm9_goFree SM [.ref 0] σ (none, r) := by
  refine MA.of (L := [(0, .ref 0)]) pn_X9_goFree rfl (fun _ => Nat.le_of_ble_eq_true rfl) (fun _ => rfl) ?_
  unfold f9_goFree at h
  refine AR.aload_n (pc := 0) (j := 0) dX9_goFree_0 rfl rfl ?_
  obtain ⟨r1, h1, h⟩ := bd_some h
  refine AR.callV (pc := 1) (As := []) (st := []) (ci := 9) dX9_goFree_1 ⟨cd_X9_layChoices, im_X9_layChoices, se_X9_layChoices, ini_X9⟩ ml_X9_244 (A9_layChoices σ _ h1) ⟨rfl, pd_X9_layChoices⟩ ⟨Nat.le_of_ble_eq_true rfl, Nat.le_of_ble_eq_true rfl⟩ ⟨rfl, rfl⟩ rfl rfl rfl (Nat.le_of_ble_eq_true rfl) ?_
  refine AR.aload_n (pc := 4) (j := 0) dX9_goFree_4 rfl rfl ?_
  refine AR.bipush (pc := 5) (v := (-7)) dX9_goFree_5 (by decide) ?_
  refine AR.bipush (pc := 7) (v := (-9)) dX9_goFree_7 (by decide) ?_
  obtain ⟨r2, h2, h⟩ := bd_some h
  refine AR.callV (pc := 9) (As := [.int (-7), .int (-9)]) (st := []) (ci := 9) dX9_goFree_9 ⟨cd_X9_goDay, im_X9_goDay, se_X9_goDay, ini_X9⟩ ml_X9_247 (A9_goDay (-7) (-9) r1 _ h2) ⟨rfl, pd_X9_goDay⟩ ⟨Nat.le_of_ble_eq_true rfl, Nat.le_of_ble_eq_true rfl⟩ ⟨rfl, rfl⟩ rfl rfl rfl (Nat.le_of_ble_eq_true rfl) ?_
  exact AR.vret (pc := 12) rfl dX9_goFree_12 (hrV (Option.some.inj h))
noncomputable def f9_noTurn (x1 : Int32) (σ : HS) : Option (Int32 × HS) :=
  bd (f9_turnsNow σ) fun r1 =>
  bd (f9_in ((x1 : Int32).toInt64) 0 (((r1.1 : Int32).toInt64) - 1) (r1.2)) fun r2 =>
  if (r2.1 : Int32) = 0 then
    some (1, r2.2)
  else
    some (0, r2.2)
set_option maxHeartbeats 4000000 in
set_option maxRecDepth 100000 in
theorem A9_noTurn {l : Launch} (x1 : Int32) (σ : HS) (r : Int32 × HS) (h : f9_noTurn x1 σ = some r) : MA l yX9_noTurn (wsU yX9_noTurn cX9_noTurn 2 (some .boolean)) rm9_noTurn SM [.ref 0, .int x1] σ (some (.int r.1), r.2) := by
  refine MA.of (L := [(0, .ref 0), (1, .int x1)]) pn_X9_noTurn rfl (fun _ => Nat.le_of_ble_eq_true rfl) (fun _ => rfl) ?_
  unfold f9_noTurn at h
  refine AR.iload_n (pc := 0) (j := 1) dX9_noTurn_0 rfl rfl ?_
  refine AR.i2l (pc := 1) dX9_noTurn_1 ?_
  refine AR.lconst (pc := 2) (v := 0) dX9_noTurn_2 (by decide) ?_
  refine AR.aload_n (pc := 3) (j := 0) dX9_noTurn_3 rfl rfl ?_
  obtain ⟨r1, h1, h⟩ := bd_some h
  refine AR.callV (pc := 4) (As := []) (st := [.long 0, .long ((x1 : Int32).toInt64)]) (ci := 9) dX9_noTurn_4 ⟨cd_X9_turnsNow, im_X9_turnsNow, se_X9_turnsNow, ini_X9⟩ ml_X9_215 (A9_turnsNow σ _ h1) ⟨rfl, pd_X9_turnsNow⟩ ⟨Nat.le_of_ble_eq_true rfl, Nat.le_of_ble_eq_true rfl⟩ ⟨rfl, rfl⟩ rfl rfl rfl (Nat.le_of_ble_eq_true rfl) ?_
  refine AR.i2l (pc := 7) dX9_noTurn_7 ?_
  refine AR.lconst (pc := 8) (v := 1) dX9_noTurn_8 (by decide) ?_
  refine AR.lsub (pc := 9) dX9_noTurn_9 ?_
  obtain ⟨r2, h2, h⟩ := bd_some h
  refine AR.callS (pc := 10) (As := [.long ((x1 : Int32).toInt64), .long 0, .long (((r1.1 : Int32).toInt64) - 1)]) (st := []) dX9_noTurn_10 ⟨cd_X9_in, sm_X9_in, ini_X9⟩ ml_X9_102 (A9_in ((x1 : Int32).toInt64) 0 (((r1.1 : Int32).toInt64) - 1) (r1.2) _ h2) ⟨rfl, pd_X9_in⟩ ⟨Nat.le_of_ble_eq_true rfl, Nat.le_of_ble_eq_true rfl⟩ ⟨rfl, rfl⟩ rfl (Nat.le_of_ble_eq_true rfl) ?_
  refine AR.if_ne (pc := 13) (tgt := 20) dX9_noTurn_13 (by decide) (fun c3 => ?_) (fun c3 => ?_)
  · replace h := ite_f c3 h
    refine AR.iconst (pc := 20) (v := 0) dX9_noTurn_20 (by decide) ?_
    exact AR.zret (pc := 21) rfl (Or.inl rfl) dX9_noTurn_21 (hrI (Option.some.inj h))
  · replace h := ite_t c3 h
    refine AR.iconst (pc := 16) (v := 1) dX9_noTurn_16 (by decide) ?_
    refine AR.goto (pc := 17) (tgt := 21) dX9_noTurn_17 (by decide) ?_
    exact AR.zret (pc := 21) rfl (Or.inr rfl) dX9_noTurn_21 (hrI (Option.some.inj h))
noncomputable def f9_choice (x1 : Int32) (x2 : Int32) (σ : HS) : Option (Int32 × HS) :=
  bd (f9_noTurn x1 σ) fun r1 =>
  if (r1.1 : Int32) = 0 then
    bd (f9_in ((x2 : Int32).toInt64) 0 ((((r1.2).1 0 2) : Int32).toInt64) (r1.2)) fun r3 =>
    if (r3.1 : Int32) = 0 then
      some ((-2), r3.2)
    else
      bd (f9_layChoices (r3.2)) fun r5 =>
      if (((100 * x1) + x2) : Int32) < 0 ∨ 600 ≤ (((100 * x1) + x2) : Int32).toNatClampNeg then none else
      some ((r5.1 15 (((100 * x1) + x2) : Int32).toNatClampNeg), r5)
  else
    some ((-1), r1.2)
set_option maxHeartbeats 4000000 in
set_option maxRecDepth 100000 in
theorem A9_choice {l : Launch} (x1 : Int32) (x2 : Int32) (σ : HS) (r : Int32 × HS) (h : f9_choice x1 x2 σ = some r) : MA l yX9_choice (wsU yX9_choice cX9_choice 3 (some .int)) rm9_choice SM [.ref 0, .int x1, .int x2] σ (some (.int r.1), r.2) := by
  refine MA.of (L := [(0, .ref 0), (1, .int x1), (2, .int x2)]) pn_X9_choice rfl (fun _ => Nat.le_of_ble_eq_true rfl) (fun _ => rfl) ?_
  unfold f9_choice at h
  refine AR.aload_n (pc := 0) (j := 0) dX9_choice_0 rfl rfl ?_
  refine AR.iload_n (pc := 1) (j := 1) dX9_choice_1 rfl rfl ?_
  obtain ⟨r1, h1, h⟩ := bd_some h
  refine AR.callV (pc := 2) (As := [.int x1]) (st := []) (ci := 9) dX9_choice_2 ⟨cd_X9_noTurn, im_X9_noTurn, se_X9_noTurn, ini_X9⟩ ml_X9_251 (A9_noTurn x1 σ _ h1) ⟨rfl, pd_X9_noTurn⟩ ⟨Nat.le_of_ble_eq_true rfl, Nat.le_of_ble_eq_true rfl⟩ ⟨rfl, rfl⟩ rfl rfl rfl (Nat.le_of_ble_eq_true rfl) ?_
  refine AR.if_eq (pc := 5) (tgt := 10) dX9_choice_5 (by decide) (fun c2 => ?_) (fun c2 => ?_)
  · replace h := ite_t c2 h
    refine AR.iload_n (pc := 10) (j := 2) dX9_choice_10 rfl rfl ?_
    refine AR.i2l (pc := 11) dX9_choice_11 ?_
    refine AR.lconst (pc := 12) (v := 0) dX9_choice_12 (by decide) ?_
    refine AR.aload_n (pc := 13) (j := 0) dX9_choice_13 rfl rfl ?_
    refine AR.getf (pc := 14) (ci := 9) (j := 2) (d := 0) (v := .int ((r1.2).1 0 2)) (T := TX9) dX9_choice_14 rfl rfl rfl (by decide) (fun w hw => wsU_in (uw_X9 w hw)) (wsU_in fl_X9_167) rfl ?_
    refine AR.i2l (pc := 17) dX9_choice_17 ?_
    obtain ⟨r3, h3, h⟩ := bd_some h
    refine AR.callS (pc := 18) (As := [.long ((x2 : Int32).toInt64), .long 0, .long ((((r1.2).1 0 2) : Int32).toInt64)]) (st := []) dX9_choice_18 ⟨cd_X9_in, sm_X9_in, ini_X9⟩ ml_X9_102 (A9_in ((x2 : Int32).toInt64) 0 ((((r1.2).1 0 2) : Int32).toInt64) (r1.2) _ h3) ⟨rfl, pd_X9_in⟩ ⟨Nat.le_of_ble_eq_true rfl, Nat.le_of_ble_eq_true rfl⟩ ⟨rfl, rfl⟩ rfl (Nat.le_of_ble_eq_true rfl) ?_
    refine AR.if_ne (pc := 21) (tgt := 27) dX9_choice_21 (by decide) (fun c4 => ?_) (fun c4 => ?_)
    · replace h := ite_f c4 h
      refine AR.aload_n (pc := 27) (j := 0) dX9_choice_27 rfl rfl ?_
      obtain ⟨r5, h5, h⟩ := bd_some h
      refine AR.callV (pc := 28) (As := []) (st := []) (ci := 9) dX9_choice_28 ⟨cd_X9_layChoices, im_X9_layChoices, se_X9_layChoices, ini_X9⟩ ml_X9_244 (A9_layChoices (r3.2) _ h5) ⟨rfl, pd_X9_layChoices⟩ ⟨Nat.le_of_ble_eq_true rfl, Nat.le_of_ble_eq_true rfl⟩ ⟨rfl, rfl⟩ rfl rfl rfl (Nat.le_of_ble_eq_true rfl) ?_
      refine AR.aload_n (pc := 31) (j := 0) dX9_choice_31 rfl rfl ?_
      refine AR.getf (pc := 32) (ci := 9) (j := 25) (d := 15 + 2) (v := .ref 15) (T := TX9) dX9_choice_32 rfl rfl rfl (by decide) (fun w hw => wsU_in (uw_X9 w hw)) (wsU_in fl_X9_52) rfl ?_
      refine AR.bipush (pc := 35) (v := 100) dX9_choice_35 (by decide) ?_
      refine AR.iload_n (pc := 37) (j := 1) dX9_choice_37 rfl rfl ?_
      refine AR.imul (pc := 38) dX9_choice_38 ?_
      refine AR.iload_n (pc := 39) (j := 2) dX9_choice_39 rfl rfl ?_
      refine AR.iadd (pc := 40) dX9_choice_40 ?_
      obtain ⟨c6, h⟩ := gn_some h
      refine AR.iaload (pc := 41) dX9_choice_41 rfl c6 ?_
      exact AR.iret (pc := 42) rfl dX9_choice_42 (hrI (Option.some.inj h))
    · replace h := ite_t c4 h
      refine AR.bipush (pc := 24) (v := (-2)) dX9_choice_24 (by decide) ?_
      exact AR.iret (pc := 26) rfl dX9_choice_26 (hrI (Option.some.inj h))
  · replace h := ite_f c2 h
    refine AR.iconst (pc := 8) (v := (-1)) dX9_choice_8 (by decide) ?_
    exact AR.iret (pc := 9) rfl dX9_choice_9 (hrI (Option.some.inj h))
noncomputable def f9_says (x1 : Int32) (σ : HS) : Option (Int32 × HS) :=
  bd (f9_noTurn x1 σ) fun r1 =>
  if (r1.1 : Int32) = 0 then
    bd (f9_goFree (r1.2)) fun r3 =>
    if (x1 : Int32) < 0 ∨ 6 ≤ (x1 : Int32).toNatClampNeg then none else
    some ((r3.1 12 (x1 : Int32).toNatClampNeg), r3)
  else
    some ((-1), r1.2)
set_option maxHeartbeats 4000000 in
set_option maxRecDepth 100000 in
theorem A9_says {l : Launch} (x1 : Int32) (σ : HS) (r : Int32 × HS) (h : f9_says x1 σ = some r) : MA l yX9_says (wsU yX9_says cX9_says 2 (some .int)) rm9_says SM [.ref 0, .int x1] σ (some (.int r.1), r.2) := by
  refine MA.of (L := [(0, .ref 0), (1, .int x1)]) pn_X9_says rfl (fun _ => Nat.le_of_ble_eq_true rfl) (fun _ => rfl) ?_
  unfold f9_says at h
  refine AR.aload_n (pc := 0) (j := 0) dX9_says_0 rfl rfl ?_
  refine AR.iload_n (pc := 1) (j := 1) dX9_says_1 rfl rfl ?_
  obtain ⟨r1, h1, h⟩ := bd_some h
  refine AR.callV (pc := 2) (As := [.int x1]) (st := []) (ci := 9) dX9_says_2 ⟨cd_X9_noTurn, im_X9_noTurn, se_X9_noTurn, ini_X9⟩ ml_X9_251 (A9_noTurn x1 σ _ h1) ⟨rfl, pd_X9_noTurn⟩ ⟨Nat.le_of_ble_eq_true rfl, Nat.le_of_ble_eq_true rfl⟩ ⟨rfl, rfl⟩ rfl rfl rfl (Nat.le_of_ble_eq_true rfl) ?_
  refine AR.if_eq (pc := 5) (tgt := 10) dX9_says_5 (by decide) (fun c2 => ?_) (fun c2 => ?_)
  · replace h := ite_t c2 h
    refine AR.aload_n (pc := 10) (j := 0) dX9_says_10 rfl rfl ?_
    obtain ⟨r3, h3, h⟩ := bd_some h
    refine AR.callV (pc := 11) (As := []) (st := []) (ci := 9) dX9_says_11 ⟨cd_X9_goFree, im_X9_goFree, se_X9_goFree, ini_X9⟩ ml_X9_254 (A9_goFree (r1.2) _ h3) ⟨rfl, pd_X9_goFree⟩ ⟨Nat.le_of_ble_eq_true rfl, Nat.le_of_ble_eq_true rfl⟩ ⟨rfl, rfl⟩ rfl rfl rfl (Nat.le_of_ble_eq_true rfl) ?_
    refine AR.aload_n (pc := 14) (j := 0) dX9_says_14 rfl rfl ?_
    refine AR.getf (pc := 15) (ci := 9) (j := 20) (d := 12 + 2) (v := .ref 12) (T := TX9) dX9_says_15 rfl rfl rfl (by decide) (fun w hw => wsU_in (uw_X9 w hw)) (wsU_in fl_X9_43) rfl ?_
    refine AR.iload_n (pc := 18) (j := 1) dX9_says_18 rfl rfl ?_
    obtain ⟨c4, h⟩ := gn_some h
    refine AR.iaload (pc := 19) dX9_says_19 rfl c4 ?_
    exact AR.iret (pc := 20) rfl dX9_says_20 (hrI (Option.some.inj h))
  · replace h := ite_f c2 h
    refine AR.iconst (pc := 8) (v := (-1)) dX9_says_8 (by decide) ?_
    exact AR.iret (pc := 9) rfl dX9_says_9 (hrI (Option.some.inj h))
noncomputable def f9_water (x1 : Int32) (σ : HS) : Option (Int32 × HS) :=
  bd (f9_noTurn x1 σ) fun r1 =>
  if (r1.1 : Int32) = 0 then
    bd (f9_goFree (r1.2)) fun r3 =>
    if (x1 : Int32) < 0 ∨ 7 ≤ (x1 : Int32).toNatClampNeg then none else
    some ((r3.1 13 (x1 : Int32).toNatClampNeg), r3)
  else
    some ((-1), r1.2)
set_option maxHeartbeats 4000000 in
set_option maxRecDepth 100000 in
theorem A9_water {l : Launch} (x1 : Int32) (σ : HS) (r : Int32 × HS) (h : f9_water x1 σ = some r) : MA l yX9_water (wsU yX9_water cX9_water 2 (some .int)) rm9_water SM [.ref 0, .int x1] σ (some (.int r.1), r.2) := by
  refine MA.of (L := [(0, .ref 0), (1, .int x1)]) pn_X9_water rfl (fun _ => Nat.le_of_ble_eq_true rfl) (fun _ => rfl) ?_
  unfold f9_water at h
  refine AR.aload_n (pc := 0) (j := 0) dX9_water_0 rfl rfl ?_
  refine AR.iload_n (pc := 1) (j := 1) dX9_water_1 rfl rfl ?_
  obtain ⟨r1, h1, h⟩ := bd_some h
  refine AR.callV (pc := 2) (As := [.int x1]) (st := []) (ci := 9) dX9_water_2 ⟨cd_X9_noTurn, im_X9_noTurn, se_X9_noTurn, ini_X9⟩ ml_X9_251 (A9_noTurn x1 σ _ h1) ⟨rfl, pd_X9_noTurn⟩ ⟨Nat.le_of_ble_eq_true rfl, Nat.le_of_ble_eq_true rfl⟩ ⟨rfl, rfl⟩ rfl rfl rfl (Nat.le_of_ble_eq_true rfl) ?_
  refine AR.if_eq (pc := 5) (tgt := 10) dX9_water_5 (by decide) (fun c2 => ?_) (fun c2 => ?_)
  · replace h := ite_t c2 h
    refine AR.aload_n (pc := 10) (j := 0) dX9_water_10 rfl rfl ?_
    obtain ⟨r3, h3, h⟩ := bd_some h
    refine AR.callV (pc := 11) (As := []) (st := []) (ci := 9) dX9_water_11 ⟨cd_X9_goFree, im_X9_goFree, se_X9_goFree, ini_X9⟩ ml_X9_254 (A9_goFree (r1.2) _ h3) ⟨rfl, pd_X9_goFree⟩ ⟨Nat.le_of_ble_eq_true rfl, Nat.le_of_ble_eq_true rfl⟩ ⟨rfl, rfl⟩ rfl rfl rfl (Nat.le_of_ble_eq_true rfl) ?_
    refine AR.aload_n (pc := 14) (j := 0) dX9_water_14 rfl rfl ?_
    refine AR.getf (pc := 15) (ci := 9) (j := 21) (d := 13 + 2) (v := .ref 13) (T := TX9) dX9_water_15 rfl rfl rfl (by decide) (fun w hw => wsU_in (uw_X9 w hw)) (wsU_in fl_X9_46) rfl ?_
    refine AR.iload_n (pc := 18) (j := 1) dX9_water_18 rfl rfl ?_
    obtain ⟨c4, h⟩ := gn_some h
    refine AR.iaload (pc := 19) dX9_water_19 rfl c4 ?_
    exact AR.iret (pc := 20) rfl dX9_water_20 (hrI (Option.some.inj h))
  · replace h := ite_f c2 h
    refine AR.iconst (pc := 8) (v := (-1)) dX9_water_8 (by decide) ?_
    exact AR.iret (pc := 9) rfl dX9_water_9 (hrI (Option.some.inj h))
noncomputable def f9_worth (x1 : Int32) (σ : HS) : Option (Int32 × HS) :=
  bd (f9_noSpeaker x1 σ) fun r1 =>
  if (r1.1 : Int32) = 0 then
    bd (f9_goFree (r1.2)) fun r3 =>
    if (x1 : Int32) < 0 ∨ 5 ≤ (x1 : Int32).toNatClampNeg then none else
    some ((r3.1 14 (x1 : Int32).toNatClampNeg), r3)
  else
    some ((-1), r1.2)
set_option maxHeartbeats 4000000 in
set_option maxRecDepth 100000 in
theorem A9_worth {l : Launch} (x1 : Int32) (σ : HS) (r : Int32 × HS) (h : f9_worth x1 σ = some r) : MA l yX9_worth (wsU yX9_worth cX9_worth 2 (some .int)) rm9_worth SM [.ref 0, .int x1] σ (some (.int r.1), r.2) := by
  refine MA.of (L := [(0, .ref 0), (1, .int x1)]) pn_X9_worth rfl (fun _ => Nat.le_of_ble_eq_true rfl) (fun _ => rfl) ?_
  unfold f9_worth at h
  refine AR.aload_n (pc := 0) (j := 0) dX9_worth_0 rfl rfl ?_
  refine AR.iload_n (pc := 1) (j := 1) dX9_worth_1 rfl rfl ?_
  obtain ⟨r1, h1, h⟩ := bd_some h
  refine AR.callV (pc := 2) (As := [.int x1]) (st := []) (ci := 9) dX9_worth_2 ⟨cd_X9_noSpeaker, im_X9_noSpeaker, se_X9_noSpeaker, ini_X9⟩ ml_X9_116 (A9_noSpeaker x1 σ _ h1) ⟨rfl, pd_X9_noSpeaker⟩ ⟨Nat.le_of_ble_eq_true rfl, Nat.le_of_ble_eq_true rfl⟩ ⟨rfl, rfl⟩ rfl rfl rfl (Nat.le_of_ble_eq_true rfl) ?_
  refine AR.if_eq (pc := 5) (tgt := 10) dX9_worth_5 (by decide) (fun c2 => ?_) (fun c2 => ?_)
  · replace h := ite_t c2 h
    refine AR.aload_n (pc := 10) (j := 0) dX9_worth_10 rfl rfl ?_
    obtain ⟨r3, h3, h⟩ := bd_some h
    refine AR.callV (pc := 11) (As := []) (st := []) (ci := 9) dX9_worth_11 ⟨cd_X9_goFree, im_X9_goFree, se_X9_goFree, ini_X9⟩ ml_X9_254 (A9_goFree (r1.2) _ h3) ⟨rfl, pd_X9_goFree⟩ ⟨Nat.le_of_ble_eq_true rfl, Nat.le_of_ble_eq_true rfl⟩ ⟨rfl, rfl⟩ rfl rfl rfl (Nat.le_of_ble_eq_true rfl) ?_
    refine AR.aload_n (pc := 14) (j := 0) dX9_worth_14 rfl rfl ?_
    refine AR.getf (pc := 15) (ci := 9) (j := 22) (d := 14 + 2) (v := .ref 14) (T := TX9) dX9_worth_15 rfl rfl rfl (by decide) (fun w hw => wsU_in (uw_X9 w hw)) (wsU_in fl_X9_49) rfl ?_
    refine AR.iload_n (pc := 18) (j := 1) dX9_worth_18 rfl rfl ?_
    obtain ⟨c4, h⟩ := gn_some h
    refine AR.iaload (pc := 19) dX9_worth_19 rfl c4 ?_
    exact AR.iret (pc := 20) rfl dX9_worth_20 (hrI (Option.some.inj h))
  · replace h := ite_f c2 h
    refine AR.iconst (pc := 8) (v := (-1)) dX9_worth_8 (by decide) ?_
    exact AR.iret (pc := 9) rfl dX9_worth_9 (hrI (Option.some.inj h))
noncomputable def f9_worthToAll_4_b (k4 : Int32 × Int32 × HS → Option (Int32 × HS)) (x1 : Int32) (x2 : Int32) (σ : HS) : Option (Int32 × HS) :=
  if ((σ.1 0 1) : Int32) ≤ x2 then
    some (x1, σ)
  else
    if (x2 : Int32) < 0 ∨ 5 ≤ (x2 : Int32).toNatClampNeg then none else
    k4 ((x1 + (σ.1 14 (x2 : Int32).toNatClampNeg)), (x2 + 1), σ)
noncomputable def f9_worthToAll_4 (p : Int32 × Int32 × HS) : Option (Int32 × HS) :=
  wloop (fun k4 p => f9_worthToAll_4_b k4 p.1 p.2.1 p.2.2) fuelN p
noncomputable def f9_worthToAll (σ : HS) : Option (Int32 × HS) :=
  f9_worthToAll_4 (0, 0, σ)
set_option maxHeartbeats 4000000 in
set_option maxRecDepth 100000 in
theorem A9_worthToAll_4_b {l : Launch} (k4 : Int32 × Int32 × HS → Option (Int32 × HS)) (x1 : Int32) (x2 : Int32) (hk4 : ∀ (p : Int32 × Int32 × HS) (r : Int32 × HS), k4 p = some r → AR l RX9 cX9_worthToAll 3 (some .int) (wsU yX9_worthToAll cX9_worthToAll 3 (some .int)) rm9_worthToAll SM 4 [(0, .ref 0), (1, .int (p.1)), (2, .int (p.2.1))] [] p.2.2 (some (.int r.1), r.2)) (σ : HS) (r : Int32 × HS) (h : f9_worthToAll_4_b k4 x1 x2 σ = some r) : AR l RX9 cX9_worthToAll 3 (some .int) (wsU yX9_worthToAll cX9_worthToAll 3 (some .int)) rm9_worthToAll SM 4 [(0, .ref 0), (1, .int x1), (2, .int x2)] [] σ (some (.int r.1), r.2) := by
  unfold f9_worthToAll_4_b at h
  refine AR.iload_n (pc := 4) (j := 2) dX9_worthToAll_4 rfl rfl ?_
  refine AR.aload_n (pc := 5) (j := 0) dX9_worthToAll_5 rfl rfl ?_
  refine AR.getf (pc := 6) (ci := 9) (j := 1) (d := 0) (v := .int (σ.1 0 1)) (T := TX9) dX9_worthToAll_6 rfl rfl rfl (by decide) (fun w hw => wsU_in (uw_X9 w hw)) (wsU_in fl_X9_113) rfl ?_
  refine AR.icmp_ge (pc := 9) (tgt := 27) dX9_worthToAll_9 (by decide) (fun c1 => ?_) (fun c1 => ?_)
  · replace h := ite_t c1 h
    refine AR.iload_n (pc := 27) (j := 1) dX9_worthToAll_27 rfl rfl ?_
    exact AR.iret (pc := 28) rfl dX9_worthToAll_28 (hrI (Option.some.inj h))
  · replace h := ite_f c1 h
    refine AR.iload_n (pc := 12) (j := 1) dX9_worthToAll_12 rfl rfl ?_
    refine AR.aload_n (pc := 13) (j := 0) dX9_worthToAll_13 rfl rfl ?_
    refine AR.getf (pc := 14) (ci := 9) (j := 22) (d := 14 + 2) (v := .ref 14) (T := TX9) dX9_worthToAll_14 rfl rfl rfl (by decide) (fun w hw => wsU_in (uw_X9 w hw)) (wsU_in fl_X9_49) rfl ?_
    refine AR.iload_n (pc := 17) (j := 2) dX9_worthToAll_17 rfl rfl ?_
    obtain ⟨c2, h⟩ := gn_some h
    refine AR.iaload (pc := 18) dX9_worthToAll_18 rfl c2 ?_
    refine AR.iadd (pc := 19) dX9_worthToAll_19 ?_
    refine AR.istore_n (pc := 20) (L2 := [(1, .int (x1 + (σ.1 14 (x2 : Int32).toNatClampNeg))), (0, .ref 0), (2, .int x2)]) dX9_worthToAll_20 rfl (by decide) rfl ?_
    refine AR.iinc (pc := 21) (j := 2) (v := (x2 + 1)) (L2 := [(2, .int (x2 + 1)), (1, .int (x1 + (σ.1 14 (x2 : Int32).toNatClampNeg))), (0, .ref 0)]) dX9_worthToAll_21 rfl rfl (by decide) rfl ?_
    refine AR.goto (pc := 24) (tgt := 4) dX9_worthToAll_24 (by decide) ?_
    exact AR.pick [2, 1, 0] rfl (hk4 ((x1 + (σ.1 14 (x2 : Int32).toNatClampNeg)), (x2 + 1), σ) r h)
theorem A9_worthToAll_4 {l : Launch} (p : Int32 × Int32 × HS) (r : Int32 × HS) (h : f9_worthToAll_4 p = some r) : AR l RX9 cX9_worthToAll 3 (some .int) (wsU yX9_worthToAll cX9_worthToAll 3 (some .int)) rm9_worthToAll SM 4 [(0, .ref 0), (1, .int (p.1)), (2, .int (p.2.1))] [] p.2.2 (some (.int r.1), r.2) := by
  unfold f9_worthToAll_4 at h
  exact wloop_run (body := fun k4 p => f9_worthToAll_4_b k4 p.1 p.2.1 p.2.2) (Q := fun p r => AR l RX9 cX9_worthToAll 3 (some .int) (wsU yX9_worthToAll cX9_worthToAll 3 (some .int)) rm9_worthToAll SM 4 [(0, .ref 0), (1, .int (p.1)), (2, .int (p.2.1))] [] p.2.2 (some (.int r.1), r.2)) (fun k4 hk4 p r h => A9_worthToAll_4_b k4 p.1 p.2.1 hk4 p.2.2 r h) fuelN p r h
set_option maxHeartbeats 4000000 in
set_option maxRecDepth 100000 in
theorem A9_worthToAll {l : Launch} (σ : HS) (r : Int32 × HS) (h : f9_worthToAll σ = some r) : MA l yX9_worthToAll (wsU yX9_worthToAll cX9_worthToAll 3 (some .int)) rm9_worthToAll SM [.ref 0] σ (some (.int r.1), r.2) := by
  refine MA.of (L := [(0, .ref 0)]) pn_X9_worthToAll rfl (fun _ => Nat.le_of_ble_eq_true rfl) (fun _ => rfl) ?_
  unfold f9_worthToAll at h
  refine AR.iconst (pc := 0) (v := 0) dX9_worthToAll_0 (by decide) ?_
  refine AR.istore_n (pc := 1) (L2 := [(1, .int 0), (0, .ref 0)]) dX9_worthToAll_1 rfl (by decide) rfl ?_
  refine AR.iconst (pc := 2) (v := 0) dX9_worthToAll_2 (by decide) ?_
  refine AR.istore_n (pc := 3) (L2 := [(2, .int 0), (1, .int 0), (0, .ref 0)]) dX9_worthToAll_3 rfl (by decide) rfl ?_
  exact AR.pick [2, 1, 0] rfl (A9_worthToAll_4 (0, 0, σ) r h)
noncomputable def f9_goRow_102 (k28 : Int32 × Int32 × HS → Option (Int32 × HS)) (x1 : Int32) (x2 : Int32) (x3 : Int32) (x4 : Int32) (z0 : Int32) (z1 : Int32) (σ : HS) : Option (Int32 × HS) :=
  bd (f9_goTurn z1 z0 (σ.1 0 3) σ) fun r1 =>
  bd (f9_greater 1 (x3 / 4) r1) fun r2 =>
  k28 (r2.1, (x4 + 1), r2.2)
noncomputable def f9_goRow_86 (k28 : Int32 × Int32 × HS → Option (Int32 × HS)) (x1 : Int32) (x2 : Int32) (x3 : Int32) (x4 : Int32) (x5 : Int32) (σ : HS) : Option (Int32 × HS) :=
  if (x5 : Int32) = 3 then
    f9_goRow_102 k28 x1 x2 x3 x4 (-9) x4 σ
  else
    f9_goRow_102 k28 x1 x2 x3 x4 x5 x4 σ
noncomputable def f9_goRow_28_b (k28 : Int32 × Int32 × HS → Option (Int32 × HS)) (x1 : Int32) (x2 : Int32) (x3 : Int32) (x4 : Int32) (σ : HS) : Option (Int32 × HS) :=
  if (x2 : Int32) ≤ x4 then
    some (1, σ)
  else
    if (x3 : Int32) = 0 then none else
    bd (f9_speakerOf x4 σ) fun r3 =>
    if (3 : Int32) ≤ ((x1 / x3) - (x1 / x3) / 4 * 4) then
      f9_goRow_86 k28 x1 x2 x3 x4 ((x1 / x3) - (x1 / x3) / 4 * 4) (r3.2)
    else
      bd (f9_noWord (r3.1) ((x1 / x3) - (x1 / x3) / 4 * 4) (r3.2)) fun r5 =>
      if (r5.1 : Int32) = 0 then
        if (x4 : Int32) < 0 ∨ 7 ≤ (x4 : Int32).toNatClampNeg then none else
        bd (f9_isHeard (r3.1) ((x1 / x3) - (x1 / x3) / 4 * 4) ((r5.2).1 13 (x4 : Int32).toNatClampNeg) (r5.2)) fun r8 =>
        if (r8.1 : Int32) = 0 then
          some (0, r8.2)
        else
          f9_goRow_86 k28 x1 x2 x3 x4 ((x1 / x3) - (x1 / x3) / 4 * 4) (r8.2)
      else
        some (0, r5.2)
noncomputable def f9_goRow_28 (x1 : Int32) (x2 : Int32) (p : Int32 × Int32 × HS) : Option (Int32 × HS) :=
  wloop (fun k28 p => f9_goRow_28_b k28 x1 x2 p.1 p.2.1 p.2.2) fuelN p
noncomputable def f9_goRow_5_b (k5 : Int32 × Int32 × HS → Option (Int32 × HS)) (x1 : Int32) (x2 : Int32) (x3 : Int32) (x4 : Int32) (σ : HS) : Option (Int32 × HS) :=
  if (x2 : Int32) ≤ x4 then
    bd (f9_beginDay σ) fun r2 =>
    f9_goRow_28 x1 x2 (x3, 0, r2)
  else
    k5 ((x3 * 4), (x4 + 1), σ)
noncomputable def f9_goRow_5 (x1 : Int32) (x2 : Int32) (p : Int32 × Int32 × HS) : Option (Int32 × HS) :=
  wloop (fun k5 p => f9_goRow_5_b k5 x1 x2 p.1 p.2.1 p.2.2) fuelN p
noncomputable def f9_goRow (x1 : Int32) (x2 : Int32) (σ : HS) : Option (Int32 × HS) :=
  f9_goRow_5 x1 x2 (1, 1, σ)
set_option maxHeartbeats 4000000 in
set_option maxRecDepth 100000 in
theorem A9_goRow_102 {l : Launch} (k28 : Int32 × Int32 × HS → Option (Int32 × HS)) (x1 : Int32) (x2 : Int32) (x3 : Int32) (x4 : Int32) (z0 : Int32) (z1 : Int32) (hk28 : ∀ (p : Int32 × Int32 × HS) (r : Int32 × HS), k28 p = some r → AR l RX9 cX9_goRow 7 (some .boolean) (wsU yX9_goRow cX9_goRow 7 (some .boolean)) rm9_goRow SM 28 [(0, .ref 0), (1, .int x1), (2, .int x2), (3, .int (p.1)), (4, .int (p.2.1))] [] p.2.2 (some (.int r.1), r.2)) (σ : HS) (r : Int32 × HS) (h : f9_goRow_102 k28 x1 x2 x3 x4 z0 z1 σ = some r) : AR l RX9 cX9_goRow 7 (some .boolean) (wsU yX9_goRow cX9_goRow 7 (some .boolean)) rm9_goRow SM 102 [(0, .ref 0), (1, .int x1), (2, .int x2), (3, .int x3), (4, .int x4)] [.int z0, .int z1, .ref 0] σ (some (.int r.1), r.2) := by
  unfold f9_goRow_102 at h
  refine AR.aload_n (pc := 102) (j := 0) dX9_goRow_102 rfl rfl ?_
  refine AR.getf (pc := 103) (ci := 9) (j := 3) (d := 0) (v := .int (σ.1 0 3)) (T := TX9) dX9_goRow_103 rfl rfl rfl (by decide) (fun w hw => wsU_in (uw_X9 w hw)) (wsU_in fl_X9_170) rfl ?_
  obtain ⟨r1, h1, h⟩ := bd_some h
  refine AR.callV (pc := 106) (As := [.int z1, .int z0, .int (σ.1 0 3)]) (st := []) (ci := 9) dX9_goRow_106 ⟨cd_X9_goTurn, im_X9_goTurn, se_X9_goTurn, ini_X9⟩ ml_X9_224 (A9_goTurn z1 z0 (σ.1 0 3) σ _ h1) ⟨rfl, pd_X9_goTurn⟩ ⟨Nat.le_of_ble_eq_true rfl, Nat.le_of_ble_eq_true rfl⟩ ⟨rfl, rfl⟩ rfl rfl rfl (Nat.le_of_ble_eq_true rfl) ?_
  refine AR.iconst (pc := 109) (v := 1) dX9_goRow_109 (by decide) ?_
  refine AR.iload_n (pc := 110) (j := 3) dX9_goRow_110 rfl rfl ?_
  refine AR.iconst (pc := 111) (v := 4) dX9_goRow_111 (by decide) ?_
  refine AR.idiv (pc := 112) dX9_goRow_112 (by decide) ?_
  obtain ⟨r2, h2, h⟩ := bd_some h
  refine AR.callS (pc := 113) (As := [.int 1, .int (x3 / 4)]) (st := []) dX9_goRow_113 ⟨cd_X9_greater, sm_X9_greater, ini_X9⟩ ml_X9_191 (A9_greater 1 (x3 / 4) r1 _ h2) ⟨rfl, pd_X9_greater⟩ ⟨Nat.le_of_ble_eq_true rfl, Nat.le_of_ble_eq_true rfl⟩ ⟨rfl, rfl⟩ rfl (Nat.le_of_ble_eq_true rfl) ?_
  refine AR.istore_n (pc := 116) (L2 := [(3, .int (r2.1)), (0, .ref 0), (1, .int x1), (2, .int x2), (4, .int x4)]) dX9_goRow_116 rfl (by decide) rfl ?_
  refine AR.iinc (pc := 117) (j := 4) (v := (x4 + 1)) (L2 := [(4, .int (x4 + 1)), (3, .int (r2.1)), (0, .ref 0), (1, .int x1), (2, .int x2)]) dX9_goRow_117 rfl rfl (by decide) rfl ?_
  refine AR.goto (pc := 120) (tgt := 28) dX9_goRow_120 (by decide) ?_
  exact AR.pick [2, 3, 4, 1, 0] rfl (hk28 (r2.1, (x4 + 1), r2.2) r h)
set_option maxHeartbeats 4000000 in
set_option maxRecDepth 100000 in
theorem A9_goRow_86 {l : Launch} (k28 : Int32 × Int32 × HS → Option (Int32 × HS)) (x1 : Int32) (x2 : Int32) (x3 : Int32) (x4 : Int32) (x5 : Int32) (hk28 : ∀ (p : Int32 × Int32 × HS) (r : Int32 × HS), k28 p = some r → AR l RX9 cX9_goRow 7 (some .boolean) (wsU yX9_goRow cX9_goRow 7 (some .boolean)) rm9_goRow SM 28 [(0, .ref 0), (1, .int x1), (2, .int x2), (3, .int (p.1)), (4, .int (p.2.1))] [] p.2.2 (some (.int r.1), r.2)) (σ : HS) (r : Int32 × HS) (h : f9_goRow_86 k28 x1 x2 x3 x4 x5 σ = some r) : AR l RX9 cX9_goRow 7 (some .boolean) (wsU yX9_goRow cX9_goRow 7 (some .boolean)) rm9_goRow SM 86 [(0, .ref 0), (1, .int x1), (2, .int x2), (3, .int x3), (4, .int x4), (5, .int x5)] [] σ (some (.int r.1), r.2) := by
  unfold f9_goRow_86 at h
  refine AR.aload_n (pc := 86) (j := 0) dX9_goRow_86 rfl rfl ?_
  refine AR.iload (pc := 87) (j := 4) dX9_goRow_87 rfl ?_
  refine AR.iload (pc := 89) (j := 5) dX9_goRow_89 rfl ?_
  refine AR.iconst (pc := 91) (v := 3) dX9_goRow_91 (by decide) ?_
  refine AR.icmp_ne (pc := 92) (tgt := 100) dX9_goRow_92 (by decide) (fun c1 => ?_) (fun c1 => ?_)
  · replace h := ite_f c1 h
    refine AR.iload (pc := 100) (j := 5) dX9_goRow_100 rfl ?_
    exact AR.pick [0, 1, 2, 3, 4] rfl (A9_goRow_102 k28 x1 x2 x3 x4 x5 x4 hk28 σ r h)
  · replace h := ite_t c1 h
    refine AR.bipush (pc := 95) (v := (-9)) dX9_goRow_95 (by decide) ?_
    refine AR.goto (pc := 97) (tgt := 102) dX9_goRow_97 (by decide) ?_
    exact AR.pick [0, 1, 2, 3, 4] rfl (A9_goRow_102 k28 x1 x2 x3 x4 (-9) x4 hk28 σ r h)
set_option maxHeartbeats 4000000 in
set_option maxRecDepth 100000 in
theorem A9_goRow_28_b {l : Launch} (k28 : Int32 × Int32 × HS → Option (Int32 × HS)) (x1 : Int32) (x2 : Int32) (x3 : Int32) (x4 : Int32) (hk28 : ∀ (p : Int32 × Int32 × HS) (r : Int32 × HS), k28 p = some r → AR l RX9 cX9_goRow 7 (some .boolean) (wsU yX9_goRow cX9_goRow 7 (some .boolean)) rm9_goRow SM 28 [(0, .ref 0), (1, .int x1), (2, .int x2), (3, .int (p.1)), (4, .int (p.2.1))] [] p.2.2 (some (.int r.1), r.2)) (σ : HS) (r : Int32 × HS) (h : f9_goRow_28_b k28 x1 x2 x3 x4 σ = some r) : AR l RX9 cX9_goRow 7 (some .boolean) (wsU yX9_goRow cX9_goRow 7 (some .boolean)) rm9_goRow SM 28 [(0, .ref 0), (1, .int x1), (2, .int x2), (3, .int x3), (4, .int x4)] [] σ (some (.int r.1), r.2) := by
  unfold f9_goRow_28_b at h
  refine AR.iload (pc := 28) (j := 4) dX9_goRow_28 rfl ?_
  refine AR.iload_n (pc := 30) (j := 2) dX9_goRow_30 rfl rfl ?_
  refine AR.icmp_ge (pc := 31) (tgt := 123) dX9_goRow_31 (by decide) (fun c1 => ?_) (fun c1 => ?_)
  · replace h := ite_t c1 h
    refine AR.iconst (pc := 123) (v := 1) dX9_goRow_123 (by decide) ?_
    exact AR.zret (pc := 124) rfl (Or.inr rfl) dX9_goRow_124 (hrI (Option.some.inj h))
  · replace h := ite_f c1 h
    refine AR.iload_n (pc := 34) (j := 1) dX9_goRow_34 rfl rfl ?_
    refine AR.iload_n (pc := 35) (j := 3) dX9_goRow_35 rfl rfl ?_
    obtain ⟨c2, h⟩ := gn_some h
    refine AR.idiv (pc := 36) dX9_goRow_36 c2 ?_
    refine AR.iconst (pc := 37) (v := 4) dX9_goRow_37 (by decide) ?_
    refine AR.irem (pc := 38) dX9_goRow_38 (by decide) ?_
    refine AR.istore (pc := 39) (L2 := [(5, .int ((x1 / x3) - (x1 / x3) / 4 * 4)), (0, .ref 0), (1, .int x1), (2, .int x2), (3, .int x3), (4, .int x4)]) dX9_goRow_39 (by decide) rfl ?_
    refine AR.aload_n (pc := 41) (j := 1) dX9_goRow_41 rfl rfl ?_
    refine AR.iload (pc := 42) (j := 5) dX9_goRow_42 rfl ?_
    obtain ⟨r3, h3, h⟩ := bd_some h
    refine AR.callV (pc := 44) (As := [.int x4]) (st := []) (ci := 9) dX9_goRow_44 ⟨cd_X9_speakerOf, im_X9_speakerOf, se_X9_speakerOf, ini_X9⟩ ml_X9_200 (A9_speakerOf x4 σ _ h3) ⟨rfl, pd_X9_speakerOf⟩ ⟨Nat.le_of_ble_eq_true rfl, Nat.le_of_ble_eq_true rfl⟩ ⟨rfl, rfl⟩ rfl rfl rfl (Nat.le_of_ble_eq_true rfl) ?_
    refine AR.istore (pc := 47) (L2 := [(6, .int (r3.1)), (5, .int ((x1 / x3) - (x1 / x3) / 4 * 4)), (0, .ref 0), (1, .int x1), (2, .int x2), (3, .int x3), (4, .int x4)]) dX9_goRow_47 (by decide) rfl ?_
    refine AR.iload (pc := 49) (j := 1) dX9_goRow_49 rfl ?_
    refine AR.iconst (pc := 51) (v := 3) dX9_goRow_51 (by decide) ?_
    refine AR.icmp_ge (pc := 52) (tgt := 86) dX9_goRow_52 (by decide) (fun c4 => ?_) (fun c4 => ?_)
    · replace h := ite_t c4 h
      exact AR.pick [2, 3, 4, 5, 6, 1] rfl (A9_goRow_86 k28 x1 x2 x3 x4 ((x1 / x3) - (x1 / x3) / 4 * 4) hk28 (r3.2) r h)
    · replace h := ite_f c4 h
      refine AR.aload_n (pc := 55) (j := 2) dX9_goRow_55 rfl rfl ?_
      refine AR.iload (pc := 56) (j := 0) dX9_goRow_56 rfl ?_
      refine AR.iload (pc := 58) (j := 1) dX9_goRow_58 rfl ?_
      obtain ⟨r5, h5, h⟩ := bd_some h
      refine AR.callV (pc := 60) (As := [.int (r3.1), .int ((x1 / x3) - (x1 / x3) / 4 * 4)]) (st := []) (ci := 9) dX9_goRow_60 ⟨cd_X9_noWord, im_X9_noWord, se_X9_noWord, ini_X9⟩ ml_X9_182 (A9_noWord (r3.1) ((x1 / x3) - (x1 / x3) / 4 * 4) (r3.2) _ h5) ⟨rfl, pd_X9_noWord⟩ ⟨Nat.le_of_ble_eq_true rfl, Nat.le_of_ble_eq_true rfl⟩ ⟨rfl, rfl⟩ rfl rfl rfl (Nat.le_of_ble_eq_true rfl) ?_
      refine AR.if_ne (pc := 63) (tgt := 84) dX9_goRow_63 (by decide) (fun c6 => ?_) (fun c6 => ?_)
      · replace h := ite_f c6 h
        refine AR.iconst (pc := 84) (v := 0) dX9_goRow_84 (by decide) ?_
        exact AR.zret (pc := 85) rfl (Or.inl rfl) dX9_goRow_85 (hrI (Option.some.inj h))
      · replace h := ite_t c6 h
        refine AR.aload_n (pc := 66) (j := 2) dX9_goRow_66 rfl rfl ?_
        refine AR.iload (pc := 67) (j := 0) dX9_goRow_67 rfl ?_
        refine AR.iload (pc := 69) (j := 1) dX9_goRow_69 rfl ?_
        refine AR.aload_n (pc := 71) (j := 2) dX9_goRow_71 rfl rfl ?_
        refine AR.getf (pc := 72) (ci := 9) (j := 21) (d := 13 + 2) (v := .ref 13) (T := TX9) dX9_goRow_72 rfl rfl rfl (by decide) (fun w hw => wsU_in (uw_X9 w hw)) (wsU_in fl_X9_46) rfl ?_
        refine AR.iload (pc := 75) (j := 6) dX9_goRow_75 rfl ?_
        obtain ⟨c7, h⟩ := gn_some h
        refine AR.iaload (pc := 77) dX9_goRow_77 rfl c7 ?_
        obtain ⟨r8, h8, h⟩ := bd_some h
        refine AR.callV (pc := 78) (As := [.int (r3.1), .int ((x1 / x3) - (x1 / x3) / 4 * 4), .int ((r5.2).1 13 (x4 : Int32).toNatClampNeg)]) (st := []) (ci := 9) dX9_goRow_78 ⟨cd_X9_isHeard, im_X9_isHeard, se_X9_isHeard, ini_X9⟩ ml_X9_203 (A9_isHeard (r3.1) ((x1 / x3) - (x1 / x3) / 4 * 4) ((r5.2).1 13 (x4 : Int32).toNatClampNeg) (r5.2) _ h8) ⟨rfl, pd_X9_isHeard⟩ ⟨Nat.le_of_ble_eq_true rfl, Nat.le_of_ble_eq_true rfl⟩ ⟨rfl, rfl⟩ rfl rfl rfl (Nat.le_of_ble_eq_true rfl) ?_
        refine AR.if_ne (pc := 81) (tgt := 86) dX9_goRow_81 (by decide) (fun c9 => ?_) (fun c9 => ?_)
        · replace h := ite_f c9 h
          exact AR.pick [2, 3, 4, 5, 6, 1] rfl (A9_goRow_86 k28 x1 x2 x3 x4 ((x1 / x3) - (x1 / x3) / 4 * 4) hk28 (r8.2) r h)
        · replace h := ite_t c9 h
          refine AR.iconst (pc := 84) (v := 0) dX9_goRow_84 (by decide) ?_
          exact AR.zret (pc := 85) rfl (Or.inl rfl) dX9_goRow_85 (hrI (Option.some.inj h))
theorem A9_goRow_28 {l : Launch} (x1 : Int32) (x2 : Int32) (p : Int32 × Int32 × HS) (r : Int32 × HS) (h : f9_goRow_28 x1 x2 p = some r) : AR l RX9 cX9_goRow 7 (some .boolean) (wsU yX9_goRow cX9_goRow 7 (some .boolean)) rm9_goRow SM 28 [(0, .ref 0), (1, .int x1), (2, .int x2), (3, .int (p.1)), (4, .int (p.2.1))] [] p.2.2 (some (.int r.1), r.2) := by
  unfold f9_goRow_28 at h
  exact wloop_run (body := fun k28 p => f9_goRow_28_b k28 x1 x2 p.1 p.2.1 p.2.2) (Q := fun p r => AR l RX9 cX9_goRow 7 (some .boolean) (wsU yX9_goRow cX9_goRow 7 (some .boolean)) rm9_goRow SM 28 [(0, .ref 0), (1, .int x1), (2, .int x2), (3, .int (p.1)), (4, .int (p.2.1))] [] p.2.2 (some (.int r.1), r.2)) (fun k28 hk28 p r h => A9_goRow_28_b k28 x1 x2 p.1 p.2.1 hk28 p.2.2 r h) fuelN p r h
set_option maxHeartbeats 4000000 in
set_option maxRecDepth 100000 in
theorem A9_goRow_5_b {l : Launch} (k5 : Int32 × Int32 × HS → Option (Int32 × HS)) (x1 : Int32) (x2 : Int32) (x3 : Int32) (x4 : Int32) (hk5 : ∀ (p : Int32 × Int32 × HS) (r : Int32 × HS), k5 p = some r → AR l RX9 cX9_goRow 7 (some .boolean) (wsU yX9_goRow cX9_goRow 7 (some .boolean)) rm9_goRow SM 5 [(0, .ref 0), (1, .int x1), (2, .int x2), (3, .int (p.1)), (4, .int (p.2.1))] [] p.2.2 (some (.int r.1), r.2)) (σ : HS) (r : Int32 × HS) (h : f9_goRow_5_b k5 x1 x2 x3 x4 σ = some r) : AR l RX9 cX9_goRow 7 (some .boolean) (wsU yX9_goRow cX9_goRow 7 (some .boolean)) rm9_goRow SM 5 [(0, .ref 0), (1, .int x1), (2, .int x2), (3, .int x3), (4, .int x4)] [] σ (some (.int r.1), r.2) := by
  unfold f9_goRow_5_b at h
  refine AR.iload (pc := 5) (j := 4) dX9_goRow_5 rfl ?_
  refine AR.iload_n (pc := 7) (j := 2) dX9_goRow_7 rfl rfl ?_
  refine AR.icmp_ge (pc := 8) (tgt := 21) dX9_goRow_8 (by decide) (fun c1 => ?_) (fun c1 => ?_)
  · replace h := ite_t c1 h
    refine AR.aload_n (pc := 21) (j := 0) dX9_goRow_21 rfl rfl ?_
    obtain ⟨r2, h2, h⟩ := bd_some h
    refine AR.callV (pc := 22) (As := []) (st := []) (ci := 9) dX9_goRow_22 ⟨cd_X9_beginDay, im_X9_beginDay, se_X9_beginDay, ini_X9⟩ ml_X9_221 (A9_beginDay σ _ h2) ⟨rfl, pd_X9_beginDay⟩ ⟨Nat.le_of_ble_eq_true rfl, Nat.le_of_ble_eq_true rfl⟩ ⟨rfl, rfl⟩ rfl rfl rfl (Nat.le_of_ble_eq_true rfl) ?_
    refine AR.iconst (pc := 25) (v := 0) dX9_goRow_25 (by decide) ?_
    refine AR.istore (pc := 26) (L2 := [(4, .int 0), (0, .ref 0), (1, .int x1), (2, .int x2), (3, .int x3)]) dX9_goRow_26 (by decide) rfl ?_
    exact AR.pick [1, 2, 3, 4, 0] rfl (A9_goRow_28 x1 x2 (x3, 0, r2) r h)
  · replace h := ite_f c1 h
    refine AR.iload_n (pc := 11) (j := 3) dX9_goRow_11 rfl rfl ?_
    refine AR.iconst (pc := 12) (v := 4) dX9_goRow_12 (by decide) ?_
    refine AR.imul (pc := 13) dX9_goRow_13 ?_
    refine AR.istore_n (pc := 14) (L2 := [(3, .int (x3 * 4)), (0, .ref 0), (1, .int x1), (2, .int x2), (4, .int x4)]) dX9_goRow_14 rfl (by decide) rfl ?_
    refine AR.iinc (pc := 15) (j := 4) (v := (x4 + 1)) (L2 := [(4, .int (x4 + 1)), (3, .int (x3 * 4)), (0, .ref 0), (1, .int x1), (2, .int x2)]) dX9_goRow_15 rfl rfl (by decide) rfl ?_
    refine AR.goto (pc := 18) (tgt := 5) dX9_goRow_18 (by decide) ?_
    exact AR.pick [2, 3, 4, 1, 0] rfl (hk5 ((x3 * 4), (x4 + 1), σ) r h)
theorem A9_goRow_5 {l : Launch} (x1 : Int32) (x2 : Int32) (p : Int32 × Int32 × HS) (r : Int32 × HS) (h : f9_goRow_5 x1 x2 p = some r) : AR l RX9 cX9_goRow 7 (some .boolean) (wsU yX9_goRow cX9_goRow 7 (some .boolean)) rm9_goRow SM 5 [(0, .ref 0), (1, .int x1), (2, .int x2), (3, .int (p.1)), (4, .int (p.2.1))] [] p.2.2 (some (.int r.1), r.2) := by
  unfold f9_goRow_5 at h
  exact wloop_run (body := fun k5 p => f9_goRow_5_b k5 x1 x2 p.1 p.2.1 p.2.2) (Q := fun p r => AR l RX9 cX9_goRow 7 (some .boolean) (wsU yX9_goRow cX9_goRow 7 (some .boolean)) rm9_goRow SM 5 [(0, .ref 0), (1, .int x1), (2, .int x2), (3, .int (p.1)), (4, .int (p.2.1))] [] p.2.2 (some (.int r.1), r.2)) (fun k5 hk5 p r h => A9_goRow_5_b k5 x1 x2 p.1 p.2.1 hk5 p.2.2 r h) fuelN p r h
set_option maxHeartbeats 4000000 in
set_option maxRecDepth 100000 in
theorem A9_goRow {l : Launch} (x1 : Int32) (x2 : Int32) (σ : HS) (r : Int32 × HS) (h : f9_goRow x1 x2 σ = some r) : MA l yX9_goRow (wsU yX9_goRow cX9_goRow 7 (some .boolean)) rm9_goRow SM [.ref 0, .int x1, .int x2] σ (some (.int r.1), r.2) := by
  refine MA.of (L := [(0, .ref 0), (1, .int x1), (2, .int x2)]) pn_X9_goRow rfl (fun _ => Nat.le_of_ble_eq_true rfl) (fun _ => rfl) ?_
  unfold f9_goRow at h
  refine AR.iconst (pc := 0) (v := 1) dX9_goRow_0 (by decide) ?_
  refine AR.istore_n (pc := 1) (L2 := [(3, .int 1), (0, .ref 0), (1, .int x1), (2, .int x2)]) dX9_goRow_1 rfl (by decide) rfl ?_
  refine AR.iconst (pc := 2) (v := 1) dX9_goRow_2 (by decide) ?_
  refine AR.istore (pc := 3) (L2 := [(4, .int 1), (3, .int 1), (0, .ref 0), (1, .int x1), (2, .int x2)]) dX9_goRow_3 (by decide) rfl ?_
  exact AR.pick [2, 3, 4, 1, 0] rfl (A9_goRow_5 x1 x2 (1, 1, σ) r h)
noncomputable def f9_together_123 (k63 : Int32 × Int32 × HS → Option (Int32 × HS)) (x1 : Int32) (x2 : Int32) (x3 : Int32) (x4 : Int32) (x5 : Int32) (σ : HS) : Option (Int32 × HS) :=
  k63 (x4, (x5 + 1), σ)
noncomputable def f9_together_97_b (k63 : Int32 × Int32 × HS → Option (Int32 × HS)) (k97 : Int32 × HS → Option (Int32 × HS)) (x1 : Int32) (x2 : Int32) (x3 : Int32) (x4 : Int32) (x5 : Int32) (x6 : Int32) (σ : HS) : Option (Int32 × HS) :=
  if (x2 : Int32) ≤ x6 then
    f9_together_123 k63 x1 x2 x3 x4 x5 σ
  else
    if (x6 : Int32) < 0 ∨ 6 ≤ (x6 : Int32).toNatClampNeg then none else
    if (x6 : Int32) < 0 ∨ 6 ≤ (x6 : Int32).toNatClampNeg then none else
    k97 ((x6 + 1), (uI σ 17 (x6 : Int32).toNatClampNeg (σ.1 12 (x6 : Int32).toNatClampNeg)))
noncomputable def f9_together_97 (k63 : Int32 × Int32 × HS → Option (Int32 × HS)) (x1 : Int32) (x2 : Int32) (x3 : Int32) (x4 : Int32) (x5 : Int32) (p : Int32 × HS) : Option (Int32 × HS) :=
  wloop (fun k97 p => f9_together_97_b k63 k97 x1 x2 x3 x4 x5 p.1 p.2) fuelN p
noncomputable def f9_together_63_b (k63 : Int32 × Int32 × HS → Option (Int32 × HS)) (x1 : Int32) (x2 : Int32) (x3 : Int32) (x4 : Int32) (x5 : Int32) (σ : HS) : Option (Int32 × HS) :=
  if (x3 : Int32) ≤ x5 then
    if 0 ≤ (x1 : Int32) then
      if (x1 : Int32) < 0 ∨ 6 ≤ (x1 : Int32).toNatClampNeg then none else
      some ((σ.1 17 (x1 : Int32).toNatClampNeg), σ)
    else
      some (x4, σ)
  else
    bd (f9_goRow x5 x2 σ) fun r4 =>
    if (r4.1 : Int32) = 0 then
      f9_together_123 k63 x1 x2 x3 x4 x5 (r4.2)
    else
      bd (f9_worthToAll (r4.2)) fun r6 =>
      if (r6.1 : Int32) ≤ x4 then
        f9_together_123 k63 x1 x2 x3 x4 x5 (r6.2)
      else
        bd (f9_worthToAll (r6.2)) fun r8 =>
        f9_together_97 k63 x1 x2 x3 (r8.1) x5 (0, r8.2)
noncomputable def f9_together_63 (x1 : Int32) (x2 : Int32) (x3 : Int32) (p : Int32 × Int32 × HS) : Option (Int32 × HS) :=
  wloop (fun k63 p => f9_together_63_b k63 x1 x2 x3 p.1 p.2.1 p.2.2) fuelN p
noncomputable def f9_together_40_b (k40 : Int32 × Int32 × HS → Option (Int32 × HS)) (x1 : Int32) (x2 : Int32) (x3 : Int32) (x4 : Int32) (σ : HS) : Option (Int32 × HS) :=
  if (x2 : Int32) ≤ x4 then
    f9_together_63 x1 x2 x3 ((-9), 0, σ)
  else
    k40 ((x3 * 4), (x4 + 1), σ)
noncomputable def f9_together_40 (x1 : Int32) (x2 : Int32) (p : Int32 × Int32 × HS) : Option (Int32 × HS) :=
  wloop (fun k40 p => f9_together_40_b k40 x1 x2 p.1 p.2.1 p.2.2) fuelN p
noncomputable def f9_together (x1 : Int32) (σ : HS) : Option (Int32 × HS) :=
  bd (f9_turnsNow σ) fun r1 =>
  bd (f9_in ((x1 : Int32).toInt64) (-1) (((r1.1 : Int32).toInt64) - 1) (r1.2)) fun r2 =>
  if (r2.1 : Int32) = 0 then
    some ((-1), r2.2)
  else
    if (((r2.2).1 0 1) : Int32) = 0 then
      some ((-3), r2.2)
    else
      bd (f9_turnsNow (r2.2)) fun r5 =>
      f9_together_40 x1 (r5.1) (1, 0, r5.2)
set_option maxHeartbeats 4000000 in
set_option maxRecDepth 100000 in
theorem A9_together_123 {l : Launch} (k63 : Int32 × Int32 × HS → Option (Int32 × HS)) (x1 : Int32) (x2 : Int32) (x3 : Int32) (x4 : Int32) (x5 : Int32) (hk63 : ∀ (p : Int32 × Int32 × HS) (r : Int32 × HS), k63 p = some r → AR l RX9 cX9_together 7 (some .int) (wsU yX9_together cX9_together 7 (some .int)) rm9_together SM 63 [(0, .ref 0), (1, .int x1), (2, .int x2), (3, .int x3), (4, .int (p.1)), (5, .int (p.2.1))] [] p.2.2 (some (.int r.1), r.2)) (σ : HS) (r : Int32 × HS) (h : f9_together_123 k63 x1 x2 x3 x4 x5 σ = some r) : AR l RX9 cX9_together 7 (some .int) (wsU yX9_together cX9_together 7 (some .int)) rm9_together SM 123 [(0, .ref 0), (1, .int x1), (2, .int x2), (3, .int x3), (4, .int x4), (5, .int x5)] [] σ (some (.int r.1), r.2) := by
  unfold f9_together_123 at h
  refine AR.iinc (pc := 123) (j := 5) (v := (x5 + 1)) (L2 := [(5, .int (x5 + 1)), (0, .ref 0), (1, .int x1), (2, .int x2), (3, .int x3), (4, .int x4)]) dX9_together_123 rfl rfl (by decide) rfl ?_
  refine AR.goto (pc := 126) (tgt := 63) dX9_together_126 (by decide) ?_
  exact AR.pick [1, 2, 3, 4, 5, 0] rfl (hk63 (x4, (x5 + 1), σ) r h)
set_option maxHeartbeats 4000000 in
set_option maxRecDepth 100000 in
theorem A9_together_97_b {l : Launch} (k63 : Int32 × Int32 × HS → Option (Int32 × HS)) (k97 : Int32 × HS → Option (Int32 × HS)) (x1 : Int32) (x2 : Int32) (x3 : Int32) (x4 : Int32) (x5 : Int32) (x6 : Int32) (hk63 : ∀ (p : Int32 × Int32 × HS) (r : Int32 × HS), k63 p = some r → AR l RX9 cX9_together 7 (some .int) (wsU yX9_together cX9_together 7 (some .int)) rm9_together SM 63 [(0, .ref 0), (1, .int x1), (2, .int x2), (3, .int x3), (4, .int (p.1)), (5, .int (p.2.1))] [] p.2.2 (some (.int r.1), r.2)) (hk97 : ∀ (p : Int32 × HS) (r : Int32 × HS), k97 p = some r → AR l RX9 cX9_together 7 (some .int) (wsU yX9_together cX9_together 7 (some .int)) rm9_together SM 97 [(0, .ref 0), (1, .int x1), (2, .int x2), (3, .int x3), (4, .int x4), (5, .int x5), (6, .int (p.1))] [] p.2 (some (.int r.1), r.2)) (σ : HS) (r : Int32 × HS) (h : f9_together_97_b k63 k97 x1 x2 x3 x4 x5 x6 σ = some r) : AR l RX9 cX9_together 7 (some .int) (wsU yX9_together cX9_together 7 (some .int)) rm9_together SM 97 [(0, .ref 0), (1, .int x1), (2, .int x2), (3, .int x3), (4, .int x4), (5, .int x5), (6, .int x6)] [] σ (some (.int r.1), r.2) := by
  unfold f9_together_97_b at h
  refine AR.iload (pc := 97) (j := 6) dX9_together_97 rfl ?_
  refine AR.iload_n (pc := 99) (j := 2) dX9_together_99 rfl rfl ?_
  refine AR.icmp_ge (pc := 100) (tgt := 123) dX9_together_100 (by decide) (fun c1 => ?_) (fun c1 => ?_)
  · replace h := ite_t c1 h
    exact AR.pick [0, 1, 2, 3, 4, 5] rfl (A9_together_123 k63 x1 x2 x3 x4 x5 hk63 σ r h)
  · replace h := ite_f c1 h
    refine AR.aload_n (pc := 103) (j := 0) dX9_together_103 rfl rfl ?_
    refine AR.getf (pc := 104) (ci := 9) (j := 27) (d := 17 + 2) (v := .ref 17) (T := TX9) dX9_together_104 rfl rfl rfl (by decide) (fun w hw => wsU_in (uw_X9 w hw)) (wsU_in fl_X9_58) rfl ?_
    refine AR.iload (pc := 107) (j := 6) dX9_together_107 rfl ?_
    refine AR.aload_n (pc := 109) (j := 0) dX9_together_109 rfl rfl ?_
    refine AR.getf (pc := 110) (ci := 9) (j := 20) (d := 12 + 2) (v := .ref 12) (T := TX9) dX9_together_110 rfl rfl rfl (by decide) (fun w hw => wsU_in (uw_X9 w hw)) (wsU_in fl_X9_43) rfl ?_
    refine AR.iload (pc := 113) (j := 6) dX9_together_113 rfl ?_
    obtain ⟨c2, h⟩ := gn_some h
    refine AR.iaload (pc := 115) dX9_together_115 rfl c2 ?_
    obtain ⟨c3, h⟩ := gn_some h
    refine AR.iastore (pc := 116) dX9_together_116 rfl c3 ?_
    refine AR.iinc (pc := 117) (j := 6) (v := (x6 + 1)) (L2 := [(6, .int (x6 + 1)), (0, .ref 0), (1, .int x1), (2, .int x2), (3, .int x3), (4, .int x4), (5, .int x5)]) dX9_together_117 rfl rfl (by decide) rfl ?_
    refine AR.goto (pc := 120) (tgt := 97) dX9_together_120 (by decide) ?_
    exact AR.pick [1, 2, 3, 4, 5, 6, 0] rfl (hk97 ((x6 + 1), (uI σ 17 (x6 : Int32).toNatClampNeg (σ.1 12 (x6 : Int32).toNatClampNeg))) r h)
theorem A9_together_97 {l : Launch} (k63 : Int32 × Int32 × HS → Option (Int32 × HS)) (x1 : Int32) (x2 : Int32) (x3 : Int32) (x4 : Int32) (x5 : Int32) (hk63 : ∀ (p : Int32 × Int32 × HS) (r : Int32 × HS), k63 p = some r → AR l RX9 cX9_together 7 (some .int) (wsU yX9_together cX9_together 7 (some .int)) rm9_together SM 63 [(0, .ref 0), (1, .int x1), (2, .int x2), (3, .int x3), (4, .int (p.1)), (5, .int (p.2.1))] [] p.2.2 (some (.int r.1), r.2)) (p : Int32 × HS) (r : Int32 × HS) (h : f9_together_97 k63 x1 x2 x3 x4 x5 p = some r) : AR l RX9 cX9_together 7 (some .int) (wsU yX9_together cX9_together 7 (some .int)) rm9_together SM 97 [(0, .ref 0), (1, .int x1), (2, .int x2), (3, .int x3), (4, .int x4), (5, .int x5), (6, .int (p.1))] [] p.2 (some (.int r.1), r.2) := by
  unfold f9_together_97 at h
  exact wloop_run (body := fun k97 p => f9_together_97_b k63 k97 x1 x2 x3 x4 x5 p.1 p.2) (Q := fun p r => AR l RX9 cX9_together 7 (some .int) (wsU yX9_together cX9_together 7 (some .int)) rm9_together SM 97 [(0, .ref 0), (1, .int x1), (2, .int x2), (3, .int x3), (4, .int x4), (5, .int x5), (6, .int (p.1))] [] p.2 (some (.int r.1), r.2)) (fun k97 hk97 p r h => A9_together_97_b k63 k97 x1 x2 x3 x4 x5 p.1 hk63 hk97 p.2 r h) fuelN p r h
set_option maxHeartbeats 4000000 in
set_option maxRecDepth 100000 in
theorem A9_together_63_b {l : Launch} (k63 : Int32 × Int32 × HS → Option (Int32 × HS)) (x1 : Int32) (x2 : Int32) (x3 : Int32) (x4 : Int32) (x5 : Int32) (hk63 : ∀ (p : Int32 × Int32 × HS) (r : Int32 × HS), k63 p = some r → AR l RX9 cX9_together 7 (some .int) (wsU yX9_together cX9_together 7 (some .int)) rm9_together SM 63 [(0, .ref 0), (1, .int x1), (2, .int x2), (3, .int x3), (4, .int (p.1)), (5, .int (p.2.1))] [] p.2.2 (some (.int r.1), r.2)) (σ : HS) (r : Int32 × HS) (h : f9_together_63_b k63 x1 x2 x3 x4 x5 σ = some r) : AR l RX9 cX9_together 7 (some .int) (wsU yX9_together cX9_together 7 (some .int)) rm9_together SM 63 [(0, .ref 0), (1, .int x1), (2, .int x2), (3, .int x3), (4, .int x4), (5, .int x5)] [] σ (some (.int r.1), r.2) := by
  unfold f9_together_63_b at h
  refine AR.iload (pc := 63) (j := 5) dX9_together_63 rfl ?_
  refine AR.iload_n (pc := 65) (j := 3) dX9_together_65 rfl rfl ?_
  refine AR.icmp_ge (pc := 66) (tgt := 129) dX9_together_66 (by decide) (fun c1 => ?_) (fun c1 => ?_)
  · replace h := ite_t c1 h
    refine AR.iload_n (pc := 129) (j := 1) dX9_together_129 rfl rfl ?_
    refine AR.if_ge (pc := 130) (tgt := 138) dX9_together_130 (by decide) (fun c2 => ?_) (fun c2 => ?_)
    · replace h := ite_t c2 h
      refine AR.aload_n (pc := 138) (j := 0) dX9_together_138 rfl rfl ?_
      refine AR.getf (pc := 139) (ci := 9) (j := 27) (d := 17 + 2) (v := .ref 17) (T := TX9) dX9_together_139 rfl rfl rfl (by decide) (fun w hw => wsU_in (uw_X9 w hw)) (wsU_in fl_X9_58) rfl ?_
      refine AR.iload_n (pc := 142) (j := 1) dX9_together_142 rfl rfl ?_
      obtain ⟨c3, h⟩ := gn_some h
      refine AR.iaload (pc := 143) dX9_together_143 rfl c3 ?_
      exact AR.iret (pc := 144) rfl dX9_together_144 (hrI (Option.some.inj h))
    · replace h := ite_f c2 h
      refine AR.iload (pc := 133) (j := 4) dX9_together_133 rfl ?_
      refine AR.goto (pc := 135) (tgt := 144) dX9_together_135 (by decide) ?_
      exact AR.iret (pc := 144) rfl dX9_together_144 (hrI (Option.some.inj h))
  · replace h := ite_f c1 h
    refine AR.aload_n (pc := 69) (j := 0) dX9_together_69 rfl rfl ?_
    refine AR.iload (pc := 70) (j := 5) dX9_together_70 rfl ?_
    refine AR.iload_n (pc := 72) (j := 2) dX9_together_72 rfl rfl ?_
    obtain ⟨r4, h4, h⟩ := bd_some h
    refine AR.callV (pc := 73) (As := [.int x5, .int x2]) (st := []) (ci := 9) dX9_together_73 ⟨cd_X9_goRow, im_X9_goRow, se_X9_goRow, ini_X9⟩ ml_X9_259 (A9_goRow x5 x2 σ _ h4) ⟨rfl, pd_X9_goRow⟩ ⟨Nat.le_of_ble_eq_true rfl, Nat.le_of_ble_eq_true rfl⟩ ⟨rfl, rfl⟩ rfl rfl rfl (Nat.le_of_ble_eq_true rfl) ?_
    refine AR.if_eq (pc := 76) (tgt := 123) dX9_together_76 (by decide) (fun c5 => ?_) (fun c5 => ?_)
    · replace h := ite_t c5 h
      exact AR.pick [0, 1, 2, 3, 4, 5] rfl (A9_together_123 k63 x1 x2 x3 x4 x5 hk63 (r4.2) r h)
    · replace h := ite_f c5 h
      refine AR.aload_n (pc := 79) (j := 0) dX9_together_79 rfl rfl ?_
      obtain ⟨r6, h6, h⟩ := bd_some h
      refine AR.callV (pc := 80) (As := []) (st := []) (ci := 9) dX9_together_80 ⟨cd_X9_worthToAll, im_X9_worthToAll, se_X9_worthToAll, ini_X9⟩ ml_X9_262 (A9_worthToAll (r4.2) _ h6) ⟨rfl, pd_X9_worthToAll⟩ ⟨Nat.le_of_ble_eq_true rfl, Nat.le_of_ble_eq_true rfl⟩ ⟨rfl, rfl⟩ rfl rfl rfl (Nat.le_of_ble_eq_true rfl) ?_
      refine AR.iload (pc := 83) (j := 4) dX9_together_83 rfl ?_
      refine AR.icmp_le (pc := 85) (tgt := 123) dX9_together_85 (by decide) (fun c7 => ?_) (fun c7 => ?_)
      · replace h := ite_t c7 h
        exact AR.pick [0, 1, 2, 3, 4, 5] rfl (A9_together_123 k63 x1 x2 x3 x4 x5 hk63 (r6.2) r h)
      · replace h := ite_f c7 h
        refine AR.aload_n (pc := 88) (j := 0) dX9_together_88 rfl rfl ?_
        obtain ⟨r8, h8, h⟩ := bd_some h
        refine AR.callV (pc := 89) (As := []) (st := []) (ci := 9) dX9_together_89 ⟨cd_X9_worthToAll, im_X9_worthToAll, se_X9_worthToAll, ini_X9⟩ ml_X9_262 (A9_worthToAll (r6.2) _ h8) ⟨rfl, pd_X9_worthToAll⟩ ⟨Nat.le_of_ble_eq_true rfl, Nat.le_of_ble_eq_true rfl⟩ ⟨rfl, rfl⟩ rfl rfl rfl (Nat.le_of_ble_eq_true rfl) ?_
        refine AR.istore (pc := 92) (L2 := [(4, .int (r8.1)), (0, .ref 0), (1, .int x1), (2, .int x2), (3, .int x3), (5, .int x5)]) dX9_together_92 (by decide) rfl ?_
        refine AR.iconst (pc := 94) (v := 0) dX9_together_94 (by decide) ?_
        refine AR.istore (pc := 95) (L2 := [(6, .int 0), (4, .int (r8.1)), (0, .ref 0), (1, .int x1), (2, .int x2), (3, .int x3), (5, .int x5)]) dX9_together_95 (by decide) rfl ?_
        exact AR.pick [2, 3, 4, 5, 1, 6, 0] rfl (A9_together_97 k63 x1 x2 x3 (r8.1) x5 hk63 (0, r8.2) r h)
theorem A9_together_63 {l : Launch} (x1 : Int32) (x2 : Int32) (x3 : Int32) (p : Int32 × Int32 × HS) (r : Int32 × HS) (h : f9_together_63 x1 x2 x3 p = some r) : AR l RX9 cX9_together 7 (some .int) (wsU yX9_together cX9_together 7 (some .int)) rm9_together SM 63 [(0, .ref 0), (1, .int x1), (2, .int x2), (3, .int x3), (4, .int (p.1)), (5, .int (p.2.1))] [] p.2.2 (some (.int r.1), r.2) := by
  unfold f9_together_63 at h
  exact wloop_run (body := fun k63 p => f9_together_63_b k63 x1 x2 x3 p.1 p.2.1 p.2.2) (Q := fun p r => AR l RX9 cX9_together 7 (some .int) (wsU yX9_together cX9_together 7 (some .int)) rm9_together SM 63 [(0, .ref 0), (1, .int x1), (2, .int x2), (3, .int x3), (4, .int (p.1)), (5, .int (p.2.1))] [] p.2.2 (some (.int r.1), r.2)) (fun k63 hk63 p r h => A9_together_63_b k63 x1 x2 x3 p.1 p.2.1 hk63 p.2.2 r h) fuelN p r h
set_option maxHeartbeats 4000000 in
set_option maxRecDepth 100000 in
theorem A9_together_40_b {l : Launch} (k40 : Int32 × Int32 × HS → Option (Int32 × HS)) (x1 : Int32) (x2 : Int32) (x3 : Int32) (x4 : Int32) (hk40 : ∀ (p : Int32 × Int32 × HS) (r : Int32 × HS), k40 p = some r → AR l RX9 cX9_together 7 (some .int) (wsU yX9_together cX9_together 7 (some .int)) rm9_together SM 40 [(0, .ref 0), (1, .int x1), (2, .int x2), (3, .int (p.1)), (4, .int (p.2.1))] [] p.2.2 (some (.int r.1), r.2)) (σ : HS) (r : Int32 × HS) (h : f9_together_40_b k40 x1 x2 x3 x4 σ = some r) : AR l RX9 cX9_together 7 (some .int) (wsU yX9_together cX9_together 7 (some .int)) rm9_together SM 40 [(0, .ref 0), (1, .int x1), (2, .int x2), (3, .int x3), (4, .int x4)] [] σ (some (.int r.1), r.2) := by
  unfold f9_together_40_b at h
  refine AR.iload (pc := 40) (j := 4) dX9_together_40 rfl ?_
  refine AR.iload_n (pc := 42) (j := 2) dX9_together_42 rfl rfl ?_
  refine AR.icmp_ge (pc := 43) (tgt := 56) dX9_together_43 (by decide) (fun c1 => ?_) (fun c1 => ?_)
  · replace h := ite_t c1 h
    refine AR.bipush (pc := 56) (v := (-9)) dX9_together_56 (by decide) ?_
    refine AR.istore (pc := 58) (L2 := [(4, .int (-9)), (0, .ref 0), (1, .int x1), (2, .int x2), (3, .int x3)]) dX9_together_58 (by decide) rfl ?_
    refine AR.iconst (pc := 60) (v := 0) dX9_together_60 (by decide) ?_
    refine AR.istore (pc := 61) (L2 := [(5, .int 0), (4, .int (-9)), (0, .ref 0), (1, .int x1), (2, .int x2), (3, .int x3)]) dX9_together_61 (by decide) rfl ?_
    exact AR.pick [2, 3, 4, 5, 1, 0] rfl (A9_together_63 x1 x2 x3 ((-9), 0, σ) r h)
  · replace h := ite_f c1 h
    refine AR.iload_n (pc := 46) (j := 3) dX9_together_46 rfl rfl ?_
    refine AR.iconst (pc := 47) (v := 4) dX9_together_47 (by decide) ?_
    refine AR.imul (pc := 48) dX9_together_48 ?_
    refine AR.istore_n (pc := 49) (L2 := [(3, .int (x3 * 4)), (0, .ref 0), (1, .int x1), (2, .int x2), (4, .int x4)]) dX9_together_49 rfl (by decide) rfl ?_
    refine AR.iinc (pc := 50) (j := 4) (v := (x4 + 1)) (L2 := [(4, .int (x4 + 1)), (3, .int (x3 * 4)), (0, .ref 0), (1, .int x1), (2, .int x2)]) dX9_together_50 rfl rfl (by decide) rfl ?_
    refine AR.goto (pc := 53) (tgt := 40) dX9_together_53 (by decide) ?_
    exact AR.pick [2, 3, 4, 1, 0] rfl (hk40 ((x3 * 4), (x4 + 1), σ) r h)
theorem A9_together_40 {l : Launch} (x1 : Int32) (x2 : Int32) (p : Int32 × Int32 × HS) (r : Int32 × HS) (h : f9_together_40 x1 x2 p = some r) : AR l RX9 cX9_together 7 (some .int) (wsU yX9_together cX9_together 7 (some .int)) rm9_together SM 40 [(0, .ref 0), (1, .int x1), (2, .int x2), (3, .int (p.1)), (4, .int (p.2.1))] [] p.2.2 (some (.int r.1), r.2) := by
  unfold f9_together_40 at h
  exact wloop_run (body := fun k40 p => f9_together_40_b k40 x1 x2 p.1 p.2.1 p.2.2) (Q := fun p r => AR l RX9 cX9_together 7 (some .int) (wsU yX9_together cX9_together 7 (some .int)) rm9_together SM 40 [(0, .ref 0), (1, .int x1), (2, .int x2), (3, .int (p.1)), (4, .int (p.2.1))] [] p.2.2 (some (.int r.1), r.2)) (fun k40 hk40 p r h => A9_together_40_b k40 x1 x2 p.1 p.2.1 hk40 p.2.2 r h) fuelN p r h
set_option maxHeartbeats 4000000 in
set_option maxRecDepth 100000 in
theorem A9_together {l : Launch} (x1 : Int32) (σ : HS) (r : Int32 × HS) (h : f9_together x1 σ = some r) : MA l yX9_together (wsU yX9_together cX9_together 7 (some .int)) rm9_together SM [.ref 0, .int x1] σ (some (.int r.1), r.2) := by
  refine MA.of (L := [(0, .ref 0), (1, .int x1)]) pn_X9_together rfl (fun _ => Nat.le_of_ble_eq_true rfl) (fun _ => rfl) ?_
  unfold f9_together at h
  refine AR.iload_n (pc := 0) (j := 1) dX9_together_0 rfl rfl ?_
  refine AR.i2l (pc := 1) dX9_together_1 ?_
  refine AR.ldc2 (pc := 2) (v := (-1)) dX9_together_2 (wsU_in kl_X9_257) ?_
  refine AR.aload_n (pc := 5) (j := 0) dX9_together_5 rfl rfl ?_
  obtain ⟨r1, h1, h⟩ := bd_some h
  refine AR.callV (pc := 6) (As := []) (st := [.long (-1), .long ((x1 : Int32).toInt64)]) (ci := 9) dX9_together_6 ⟨cd_X9_turnsNow, im_X9_turnsNow, se_X9_turnsNow, ini_X9⟩ ml_X9_215 (A9_turnsNow σ _ h1) ⟨rfl, pd_X9_turnsNow⟩ ⟨Nat.le_of_ble_eq_true rfl, Nat.le_of_ble_eq_true rfl⟩ ⟨rfl, rfl⟩ rfl rfl rfl (Nat.le_of_ble_eq_true rfl) ?_
  refine AR.i2l (pc := 9) dX9_together_9 ?_
  refine AR.lconst (pc := 10) (v := 1) dX9_together_10 (by decide) ?_
  refine AR.lsub (pc := 11) dX9_together_11 ?_
  obtain ⟨r2, h2, h⟩ := bd_some h
  refine AR.callS (pc := 12) (As := [.long ((x1 : Int32).toInt64), .long (-1), .long (((r1.1 : Int32).toInt64) - 1)]) (st := []) dX9_together_12 ⟨cd_X9_in, sm_X9_in, ini_X9⟩ ml_X9_102 (A9_in ((x1 : Int32).toInt64) (-1) (((r1.1 : Int32).toInt64) - 1) (r1.2) _ h2) ⟨rfl, pd_X9_in⟩ ⟨Nat.le_of_ble_eq_true rfl, Nat.le_of_ble_eq_true rfl⟩ ⟨rfl, rfl⟩ rfl (Nat.le_of_ble_eq_true rfl) ?_
  refine AR.if_ne (pc := 15) (tgt := 20) dX9_together_15 (by decide) (fun c3 => ?_) (fun c3 => ?_)
  · replace h := ite_f c3 h
    refine AR.aload_n (pc := 20) (j := 0) dX9_together_20 rfl rfl ?_
    refine AR.getf (pc := 21) (ci := 9) (j := 1) (d := 0) (v := .int ((r2.2).1 0 1)) (T := TX9) dX9_together_21 rfl rfl rfl (by decide) (fun w hw => wsU_in (uw_X9 w hw)) (wsU_in fl_X9_113) rfl ?_
    refine AR.if_ne (pc := 24) (tgt := 30) dX9_together_24 (by decide) (fun c4 => ?_) (fun c4 => ?_)
    · replace h := ite_f c4 h
      refine AR.aload_n (pc := 30) (j := 0) dX9_together_30 rfl rfl ?_
      obtain ⟨r5, h5, h⟩ := bd_some h
      refine AR.callV (pc := 31) (As := []) (st := []) (ci := 9) dX9_together_31 ⟨cd_X9_turnsNow, im_X9_turnsNow, se_X9_turnsNow, ini_X9⟩ ml_X9_215 (A9_turnsNow (r2.2) _ h5) ⟨rfl, pd_X9_turnsNow⟩ ⟨Nat.le_of_ble_eq_true rfl, Nat.le_of_ble_eq_true rfl⟩ ⟨rfl, rfl⟩ rfl rfl rfl (Nat.le_of_ble_eq_true rfl) ?_
      refine AR.istore_n (pc := 34) (L2 := [(2, .int (r5.1)), (0, .ref 0), (1, .int x1)]) dX9_together_34 rfl (by decide) rfl ?_
      refine AR.iconst (pc := 35) (v := 1) dX9_together_35 (by decide) ?_
      refine AR.istore_n (pc := 36) (L2 := [(3, .int 1), (2, .int (r5.1)), (0, .ref 0), (1, .int x1)]) dX9_together_36 rfl (by decide) rfl ?_
      refine AR.iconst (pc := 37) (v := 0) dX9_together_37 (by decide) ?_
      refine AR.istore (pc := 38) (L2 := [(4, .int 0), (3, .int 1), (2, .int (r5.1)), (0, .ref 0), (1, .int x1)]) dX9_together_38 (by decide) rfl ?_
      exact AR.pick [3, 4, 2, 1, 0] rfl (A9_together_40 x1 (r5.1) (1, 0, r5.2) r h)
    · replace h := ite_t c4 h
      refine AR.bipush (pc := 27) (v := (-3)) dX9_together_27 (by decide) ?_
      exact AR.iret (pc := 29) rfl dX9_together_29 (hrI (Option.some.inj h))
  · replace h := ite_t c3 h
    refine AR.iconst (pc := 18) (v := (-1)) dX9_together_18 (by decide) ?_
    exact AR.iret (pc := 19) rfl dX9_together_19 (hrI (Option.some.inj h))
noncomputable def f9_longestBy_50 (k6 : Int32 × Int32 × HS → Option (Int32 × HS)) (x1 : Int32) (x2 : Int32) (x4 : Int32) (z0 : Int32) (σ : HS) : Option (Int32 × HS) :=
  k6 (z0, (x4 + 1), σ)
noncomputable def f9_longestBy_49 (k6 : Int32 × Int32 × HS → Option (Int32 × HS)) (x1 : Int32) (x2 : Int32) (x3 : Int32) (x4 : Int32) (σ : HS) : Option (Int32 × HS) :=
  f9_longestBy_50 k6 x1 x2 x4 x3 σ
noncomputable def f9_longestBy_6_b (k6 : Int32 × Int32 × HS → Option (Int32 × HS)) (x1 : Int32) (x2 : Int32) (x3 : Int32) (x4 : Int32) (σ : HS) : Option (Int32 × HS) :=
  if (x1 : Int32) < 0 ∨ 5 ≤ (x1 : Int32).toNatClampNeg then none else
  if ((σ.1 2 (x1 : Int32).toNatClampNeg) : Int32) ≤ x4 then
    some (x3, σ)
  else
    bd (f9_isHeard x1 x4 x2 σ) fun r3 =>
    if (r3.1 : Int32) = 0 then
      f9_longestBy_49 k6 x1 x2 x3 x4 (r3.2)
    else
      bd (f9_lengthAs x1 x4 (r3.2)) fun r5 =>
      bd (f9_lengthAs x1 x3 (r5.2)) fun r6 =>
      if (r5.1 : Int32) ≤ (r6.1) then
        f9_longestBy_49 k6 x1 x2 x3 x4 (r6.2)
      else
        f9_longestBy_50 k6 x1 x2 x4 x4 (r6.2)
noncomputable def f9_longestBy_6 (x1 : Int32) (x2 : Int32) (p : Int32 × Int32 × HS) : Option (Int32 × HS) :=
  wloop (fun k6 p => f9_longestBy_6_b k6 x1 x2 p.1 p.2.1 p.2.2) fuelN p
noncomputable def f9_longestBy (x1 : Int32) (x2 : Int32) (σ : HS) : Option (Int32 × HS) :=
  f9_longestBy_6 x1 x2 ((-9), 0, σ)
set_option maxHeartbeats 4000000 in
set_option maxRecDepth 100000 in
theorem A9_longestBy_50 {l : Launch} (k6 : Int32 × Int32 × HS → Option (Int32 × HS)) (x1 : Int32) (x2 : Int32) (x4 : Int32) (z0 : Int32) (hk6 : ∀ (p : Int32 × Int32 × HS) (r : Int32 × HS), k6 p = some r → AR l RX9 cX9_longestBy 5 (some .int) (wsU yX9_longestBy cX9_longestBy 5 (some .int)) rm9_longestBy SM 6 [(0, .ref 0), (1, .int x1), (2, .int x2), (3, .int (p.1)), (4, .int (p.2.1))] [] p.2.2 (some (.int r.1), r.2)) (σ : HS) (r : Int32 × HS) (h : f9_longestBy_50 k6 x1 x2 x4 z0 σ = some r) : AR l RX9 cX9_longestBy 5 (some .int) (wsU yX9_longestBy cX9_longestBy 5 (some .int)) rm9_longestBy SM 50 [(0, .ref 0), (1, .int x1), (2, .int x2), (4, .int x4)] [.int z0] σ (some (.int r.1), r.2) := by
  unfold f9_longestBy_50 at h
  refine AR.istore_n (pc := 50) (L2 := [(3, .int z0), (0, .ref 0), (1, .int x1), (2, .int x2), (4, .int x4)]) dX9_longestBy_50 rfl (by decide) rfl ?_
  refine AR.iinc (pc := 51) (j := 4) (v := (x4 + 1)) (L2 := [(4, .int (x4 + 1)), (3, .int z0), (0, .ref 0), (1, .int x1), (2, .int x2)]) dX9_longestBy_51 rfl rfl (by decide) rfl ?_
  refine AR.goto (pc := 54) (tgt := 6) dX9_longestBy_54 (by decide) ?_
  exact AR.pick [2, 3, 4, 1, 0] rfl (hk6 (z0, (x4 + 1), σ) r h)
set_option maxHeartbeats 4000000 in
set_option maxRecDepth 100000 in
theorem A9_longestBy_49 {l : Launch} (k6 : Int32 × Int32 × HS → Option (Int32 × HS)) (x1 : Int32) (x2 : Int32) (x3 : Int32) (x4 : Int32) (hk6 : ∀ (p : Int32 × Int32 × HS) (r : Int32 × HS), k6 p = some r → AR l RX9 cX9_longestBy 5 (some .int) (wsU yX9_longestBy cX9_longestBy 5 (some .int)) rm9_longestBy SM 6 [(0, .ref 0), (1, .int x1), (2, .int x2), (3, .int (p.1)), (4, .int (p.2.1))] [] p.2.2 (some (.int r.1), r.2)) (σ : HS) (r : Int32 × HS) (h : f9_longestBy_49 k6 x1 x2 x3 x4 σ = some r) : AR l RX9 cX9_longestBy 5 (some .int) (wsU yX9_longestBy cX9_longestBy 5 (some .int)) rm9_longestBy SM 49 [(0, .ref 0), (1, .int x1), (2, .int x2), (3, .int x3), (4, .int x4)] [] σ (some (.int r.1), r.2) := by
  unfold f9_longestBy_49 at h
  refine AR.iload_n (pc := 49) (j := 3) dX9_longestBy_49 rfl rfl ?_
  exact AR.pick [0, 1, 2, 4] rfl (A9_longestBy_50 k6 x1 x2 x4 x3 hk6 σ r h)
set_option maxHeartbeats 4000000 in
set_option maxRecDepth 100000 in
theorem A9_longestBy_6_b {l : Launch} (k6 : Int32 × Int32 × HS → Option (Int32 × HS)) (x1 : Int32) (x2 : Int32) (x3 : Int32) (x4 : Int32) (hk6 : ∀ (p : Int32 × Int32 × HS) (r : Int32 × HS), k6 p = some r → AR l RX9 cX9_longestBy 5 (some .int) (wsU yX9_longestBy cX9_longestBy 5 (some .int)) rm9_longestBy SM 6 [(0, .ref 0), (1, .int x1), (2, .int x2), (3, .int (p.1)), (4, .int (p.2.1))] [] p.2.2 (some (.int r.1), r.2)) (σ : HS) (r : Int32 × HS) (h : f9_longestBy_6_b k6 x1 x2 x3 x4 σ = some r) : AR l RX9 cX9_longestBy 5 (some .int) (wsU yX9_longestBy cX9_longestBy 5 (some .int)) rm9_longestBy SM 6 [(0, .ref 0), (1, .int x1), (2, .int x2), (3, .int x3), (4, .int x4)] [] σ (some (.int r.1), r.2) := by
  unfold f9_longestBy_6_b at h
  refine AR.iload (pc := 6) (j := 4) dX9_longestBy_6 rfl ?_
  refine AR.aload_n (pc := 8) (j := 0) dX9_longestBy_8 rfl rfl ?_
  refine AR.getf (pc := 9) (ci := 9) (j := 6) (d := 2 + 2) (v := .ref 2) (T := TX9) dX9_longestBy_9 rfl rfl rfl (by decide) (fun w hw => wsU_in (uw_X9 w hw)) (wsU_in fl_X9_13) rfl ?_
  refine AR.iload_n (pc := 12) (j := 1) dX9_longestBy_12 rfl rfl ?_
  obtain ⟨c1, h⟩ := gn_some h
  refine AR.iaload (pc := 13) dX9_longestBy_13 rfl c1 ?_
  refine AR.icmp_ge (pc := 14) (tgt := 57) dX9_longestBy_14 (by decide) (fun c2 => ?_) (fun c2 => ?_)
  · replace h := ite_t c2 h
    refine AR.iload_n (pc := 57) (j := 3) dX9_longestBy_57 rfl rfl ?_
    exact AR.iret (pc := 58) rfl dX9_longestBy_58 (hrI (Option.some.inj h))
  · replace h := ite_f c2 h
    refine AR.aload_n (pc := 17) (j := 0) dX9_longestBy_17 rfl rfl ?_
    refine AR.iload_n (pc := 18) (j := 1) dX9_longestBy_18 rfl rfl ?_
    refine AR.iload (pc := 19) (j := 4) dX9_longestBy_19 rfl ?_
    refine AR.iload_n (pc := 21) (j := 2) dX9_longestBy_21 rfl rfl ?_
    obtain ⟨r3, h3, h⟩ := bd_some h
    refine AR.callV (pc := 22) (As := [.int x1, .int x4, .int x2]) (st := []) (ci := 9) dX9_longestBy_22 ⟨cd_X9_isHeard, im_X9_isHeard, se_X9_isHeard, ini_X9⟩ ml_X9_203 (A9_isHeard x1 x4 x2 σ _ h3) ⟨rfl, pd_X9_isHeard⟩ ⟨Nat.le_of_ble_eq_true rfl, Nat.le_of_ble_eq_true rfl⟩ ⟨rfl, rfl⟩ rfl rfl rfl (Nat.le_of_ble_eq_true rfl) ?_
    refine AR.if_eq (pc := 25) (tgt := 49) dX9_longestBy_25 (by decide) (fun c4 => ?_) (fun c4 => ?_)
    · replace h := ite_t c4 h
      exact AR.pick [0, 1, 2, 3, 4] rfl (A9_longestBy_49 k6 x1 x2 x3 x4 hk6 (r3.2) r h)
    · replace h := ite_f c4 h
      refine AR.aload_n (pc := 28) (j := 0) dX9_longestBy_28 rfl rfl ?_
      refine AR.iload_n (pc := 29) (j := 1) dX9_longestBy_29 rfl rfl ?_
      refine AR.iload (pc := 30) (j := 4) dX9_longestBy_30 rfl ?_
      obtain ⟨r5, h5, h⟩ := bd_some h
      refine AR.callV (pc := 32) (As := [.int x1, .int x4]) (st := []) (ci := 9) dX9_longestBy_32 ⟨cd_X9_lengthAs, im_X9_lengthAs, se_X9_lengthAs, ini_X9⟩ ml_X9_238 (A9_lengthAs x1 x4 (r3.2) _ h5) ⟨rfl, pd_X9_lengthAs⟩ ⟨Nat.le_of_ble_eq_true rfl, Nat.le_of_ble_eq_true rfl⟩ ⟨rfl, rfl⟩ rfl rfl rfl (Nat.le_of_ble_eq_true rfl) ?_
      refine AR.aload_n (pc := 35) (j := 0) dX9_longestBy_35 rfl rfl ?_
      refine AR.iload_n (pc := 36) (j := 1) dX9_longestBy_36 rfl rfl ?_
      refine AR.iload_n (pc := 37) (j := 3) dX9_longestBy_37 rfl rfl ?_
      obtain ⟨r6, h6, h⟩ := bd_some h
      refine AR.callV (pc := 38) (As := [.int x1, .int x3]) (st := [.int (r5.1)]) (ci := 9) dX9_longestBy_38 ⟨cd_X9_lengthAs, im_X9_lengthAs, se_X9_lengthAs, ini_X9⟩ ml_X9_238 (A9_lengthAs x1 x3 (r5.2) _ h6) ⟨rfl, pd_X9_lengthAs⟩ ⟨Nat.le_of_ble_eq_true rfl, Nat.le_of_ble_eq_true rfl⟩ ⟨rfl, rfl⟩ rfl rfl rfl (Nat.le_of_ble_eq_true rfl) ?_
      refine AR.icmp_le (pc := 41) (tgt := 49) dX9_longestBy_41 (by decide) (fun c7 => ?_) (fun c7 => ?_)
      · replace h := ite_t c7 h
        exact AR.pick [0, 1, 2, 3, 4] rfl (A9_longestBy_49 k6 x1 x2 x3 x4 hk6 (r6.2) r h)
      · replace h := ite_f c7 h
        refine AR.iload (pc := 44) (j := 4) dX9_longestBy_44 rfl ?_
        refine AR.goto (pc := 46) (tgt := 50) dX9_longestBy_46 (by decide) ?_
        exact AR.pick [0, 1, 2, 4] rfl (A9_longestBy_50 k6 x1 x2 x4 x4 hk6 (r6.2) r h)
theorem A9_longestBy_6 {l : Launch} (x1 : Int32) (x2 : Int32) (p : Int32 × Int32 × HS) (r : Int32 × HS) (h : f9_longestBy_6 x1 x2 p = some r) : AR l RX9 cX9_longestBy 5 (some .int) (wsU yX9_longestBy cX9_longestBy 5 (some .int)) rm9_longestBy SM 6 [(0, .ref 0), (1, .int x1), (2, .int x2), (3, .int (p.1)), (4, .int (p.2.1))] [] p.2.2 (some (.int r.1), r.2) := by
  unfold f9_longestBy_6 at h
  exact wloop_run (body := fun k6 p => f9_longestBy_6_b k6 x1 x2 p.1 p.2.1 p.2.2) (Q := fun p r => AR l RX9 cX9_longestBy 5 (some .int) (wsU yX9_longestBy cX9_longestBy 5 (some .int)) rm9_longestBy SM 6 [(0, .ref 0), (1, .int x1), (2, .int x2), (3, .int (p.1)), (4, .int (p.2.1))] [] p.2.2 (some (.int r.1), r.2)) (fun k6 hk6 p r h => A9_longestBy_6_b k6 x1 x2 p.1 p.2.1 hk6 p.2.2 r h) fuelN p r h
set_option maxHeartbeats 4000000 in
set_option maxRecDepth 100000 in
theorem A9_longestBy {l : Launch} (x1 : Int32) (x2 : Int32) (σ : HS) (r : Int32 × HS) (h : f9_longestBy x1 x2 σ = some r) : MA l yX9_longestBy (wsU yX9_longestBy cX9_longestBy 5 (some .int)) rm9_longestBy SM [.ref 0, .int x1, .int x2] σ (some (.int r.1), r.2) := by
  refine MA.of (L := [(0, .ref 0), (1, .int x1), (2, .int x2)]) pn_X9_longestBy rfl (fun _ => Nat.le_of_ble_eq_true rfl) (fun _ => rfl) ?_
  unfold f9_longestBy at h
  refine AR.bipush (pc := 0) (v := (-9)) dX9_longestBy_0 (by decide) ?_
  refine AR.istore_n (pc := 2) (L2 := [(3, .int (-9)), (0, .ref 0), (1, .int x1), (2, .int x2)]) dX9_longestBy_2 rfl (by decide) rfl ?_
  refine AR.iconst (pc := 3) (v := 0) dX9_longestBy_3 (by decide) ?_
  refine AR.istore (pc := 4) (L2 := [(4, .int 0), (3, .int (-9)), (0, .ref 0), (1, .int x1), (2, .int x2)]) dX9_longestBy_4 (by decide) rfl ?_
  exact AR.pick [2, 3, 4, 1, 0] rfl (A9_longestBy_6 x1 x2 ((-9), 0, σ) r h)
