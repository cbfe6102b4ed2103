noncomputable def g_cell (sL : Nat) (a0 : Nat → Int32) (x1 : Int32) : Option (Int32) :=
  if (nI sL : Int32) ≤ x1 then
    some ((15485863 * x1) + 977)
  else
    if (x1 : Int32) < 0 ∨ sL ≤ (x1 : Int32).toNatClampNeg then none else
    some (a0 (x1 : Int32).toNatClampNeg)
set_option maxHeartbeats 4000000 in
set_option maxRecDepth 100000 in
theorem G_cell {l : Launch} {ad : Nat → Nat} {q0 : Nat} (sL : Nat) (a0 : Nat → Int32) (x1 : Int32) {σ : HS} (r : Int32) (h : g_cell sL a0 x1 = some r) : LM l yL_cell (wsU yL_cell cL_cell 2 (some .int)) rmL_cell 0 [.ref q0, .int x1] ad σ [] [(q0, sL, a0)] (FI σ r) := by
  refine LM.of (L := [(0, .ref q0), (1, .int x1)]) pn_L_cell rfl (Nat.le_of_ble_eq_true rfl) rfl ?_
  unfold g_cell at h
  refine LR.iload_n (pc := 0) (j := 1) dL_cell_0 rfl rfl ?_
  refine LR.aload_n (pc := 1) (j := 0) dL_cell_1 rfl rfl ?_
  refine LR.alenR (pc := 2) (j := 0) dL_cell_2 rfl ?_
  refine LR.icmp_ge (pc := 3) (tgt := 12) dL_cell_3 (by decide) (fun c1 => ?_) (fun c1 => ?_)
  · replace h := ite_t c1 h
    refine LR.ldc (pc := 12) (v := 15485863) dL_cell_12 ki_L_7 ?_
    refine LR.iload_n (pc := 14) (j := 1) dL_cell_14 rfl rfl ?_
    refine LR.imul (pc := 15) dL_cell_15 ?_
    refine LR.sipush (pc := 16) (v := 977) dL_cell_16 (by decide) ?_
    refine LR.iadd (pc := 19) dL_cell_19 ?_
    exact LR.fin ⟨Nat.zero_le _, Or.inl ⟨_, rfl, dL_cell_20, Or.inl rfl, ⟨by rw [Option.some.inj h], rfl, rfl⟩⟩⟩
  · replace h := ite_f c1 h
    refine LR.aload_n (pc := 6) (j := 0) dL_cell_6 rfl rfl ?_
    refine LR.iload_n (pc := 7) (j := 1) dL_cell_7 rfl rfl ?_
    obtain ⟨c2, h⟩ := gn_some h
    refine LR.ialoadR (pc := 8) (j := 0) dL_cell_8 rfl c2 ?_
    refine LR.goto (pc := 9) (tgt := 20) dL_cell_9 (by decide) ?_
    exact LR.fin ⟨Nat.zero_le _, Or.inl ⟨_, rfl, dL_cell_20, Or.inl rfl, ⟨by rw [Option.some.inj h], rfl, rfl⟩⟩⟩
noncomputable def g_low (x0 : Int32) (x1 : Int32) : Option (Int32) :=
  if (x1 : Int32) = 0 then none else
  some ((x0 &&& 2147483647) - (x0 &&& 2147483647) / x1 * x1)
set_option maxHeartbeats 4000000 in
set_option maxRecDepth 100000 in
theorem G_low {l : Launch} {ad : Nat → Nat} (x0 : Int32) (x1 : Int32) {σ : HS} (r : Int32) (h : g_low x0 x1 = some r) : LM l yL_low (wsU yL_low cL_low 2 (some .int)) rmL_low 0 [.int x0, .int x1] ad σ [] [] (FI σ r) := by
  refine LM.of (L := [(0, .int x0), (1, .int x1)]) pn_L_low rfl (Nat.le_of_ble_eq_true rfl) rfl ?_
  unfold g_low at h
  refine LR.iload_n (pc := 0) (j := 0) dL_low_0 rfl rfl ?_
  refine LR.ldc (pc := 1) (v := 2147483647) dL_low_1 ki_L_8 ?_
  refine LR.iand (pc := 3) dL_low_3 ?_
  refine LR.iload_n (pc := 4) (j := 1) dL_low_4 rfl rfl ?_
  obtain ⟨c1, h⟩ := gn_some h
  refine LR.irem (pc := 5) dL_low_5 c1 ?_
  exact LR.fin ⟨Nat.zero_le _, Or.inl ⟨_, rfl, dL_low_6, Or.inl rfl, ⟨by rw [Option.some.inj h], rfl, rfl⟩⟩⟩
noncomputable def g_turns (a0 : Nat → Int32) : Option (Int32) :=
  if ((a0 (3 : Int32).toNatClampNeg) : Int32) = 3 then
    some ((a0 (0 : Int32).toNatClampNeg) + 1)
  else
    some (a0 (0 : Int32).toNatClampNeg)
set_option maxHeartbeats 4000000 in
set_option maxRecDepth 100000 in
theorem G_turns {l : Launch} {ad : Nat → Nat} {q0 : Nat} (a0 : Nat → Int32) {σ : HS} (r : Int32) (h : g_turns a0 = some r) : LM l yL_turns (wsU yL_turns cL_turns 1 (some .int)) rmL_turns 0 [.ref q0] ad σ [] [(q0, 44, a0)] (FI σ r) := by
  refine LM.of (L := [(0, .ref q0)]) pn_L_turns rfl (Nat.le_of_ble_eq_true rfl) rfl ?_
  unfold g_turns at h
  refine LR.aload_n (pc := 0) (j := 0) dL_turns_0 rfl rfl ?_
  refine LR.iconst (pc := 1) (v := 3) dL_turns_1 (by decide) ?_
  refine LR.ialoadR (pc := 2) (j := 0) dL_turns_2 rfl (by decide) ?_
  refine LR.iconst (pc := 3) (v := 3) dL_turns_3 (by decide) ?_
  refine LR.icmp_ne (pc := 4) (tgt := 15) dL_turns_4 (by decide) (fun c1 => ?_) (fun c1 => ?_)
  · replace h := ite_f c1 h
    refine LR.aload_n (pc := 15) (j := 0) dL_turns_15 rfl rfl ?_
    refine LR.iconst (pc := 16) (v := 0) dL_turns_16 (by decide) ?_
    refine LR.ialoadR (pc := 17) (j := 0) dL_turns_17 rfl (by decide) ?_
    exact LR.fin ⟨Nat.zero_le _, Or.inl ⟨_, rfl, dL_turns_18, Or.inl rfl, ⟨by rw [Option.some.inj h], rfl, rfl⟩⟩⟩
  · replace h := ite_t c1 h
    refine LR.aload_n (pc := 7) (j := 0) dL_turns_7 rfl rfl ?_
    refine LR.iconst (pc := 8) (v := 0) dL_turns_8 (by decide) ?_
    refine LR.ialoadR (pc := 9) (j := 0) dL_turns_9 rfl (by decide) ?_
    refine LR.iconst (pc := 10) (v := 1) dL_turns_10 (by decide) ?_
    refine LR.iadd (pc := 11) dL_turns_11 ?_
    refine LR.goto (pc := 12) (tgt := 18) dL_turns_12 (by decide) ?_
    exact LR.fin ⟨Nat.zero_le _, Or.inl ⟨_, rfl, dL_turns_18, Or.inl rfl, ⟨by rw [Option.some.inj h], rfl, rfl⟩⟩⟩
noncomputable def g_who_15 (a0 : Nat → Int32) (z0 : Int32) (z1 : Int32) : Option (Int32) :=
  if ((z1 + z0) : Int32) < 0 ∨ 44 ≤ ((z1 + z0) : Int32).toNatClampNeg then none else
  some (a0 ((z1 + z0) : Int32).toNatClampNeg)
noncomputable def g_who (a0 : Nat → Int32) (x1 : Int32) : Option (Int32) :=
  if (x1 : Int32) = (a0 (0 : Int32).toNatClampNeg) then
    g_who_15 a0 0 14
  else
    g_who_15 a0 x1 14
set_option maxHeartbeats 4000000 in
set_option maxRecDepth 100000 in
theorem G_who_15 {l : Launch} {ad : Nat → Nat} {q0 : Nat} (a0 : Nat → Int32) (z0 : Int32) (z1 : Int32) {σ : HS} (r : Int32) (h : g_who_15 a0 z0 z1 = some r) : LR l cL_who 2 (some .int) (wsU yL_who cL_who 2 (some .int)) rmL_who 0 0 ad [(q0, 44, a0)] (RetE cL_who (some .int) 0 (FI σ r)) 15 [] [.int z0, .int z1, .ref q0] σ [] 0 := by
  unfold g_who_15 at h
  refine LR.iadd (pc := 15) dL_who_15 ?_
  obtain ⟨c1, h⟩ := gn_some h
  refine LR.ialoadR (pc := 16) (j := 0) dL_who_16 rfl c1 ?_
  exact LR.fin ⟨Nat.zero_le _, Or.inl ⟨_, rfl, dL_who_17, Or.inl rfl, ⟨by rw [Option.some.inj h], rfl, rfl⟩⟩⟩
set_option maxHeartbeats 4000000 in
set_option maxRecDepth 100000 in
theorem G_who {l : Launch} {ad : Nat → Nat} {q0 : Nat} (a0 : Nat → Int32) (x1 : Int32) {σ : HS} (r : Int32) (h : g_who a0 x1 = some r) : LM l yL_who (wsU yL_who cL_who 2 (some .int)) rmL_who 0 [.ref q0, .int x1] ad σ [] [(q0, 44, a0)] (FI σ r) := by
  refine LM.of (L := [(0, .ref q0), (1, .int x1)]) pn_L_who rfl (Nat.le_of_ble_eq_true rfl) rfl ?_
  unfold g_who at h
  refine LR.aload_n (pc := 0) (j := 0) dL_who_0 rfl rfl ?_
  refine LR.bipush (pc := 1) (v := 14) dL_who_1 (by decide) ?_
  refine LR.iload_n (pc := 3) (j := 1) dL_who_3 rfl rfl ?_
  refine LR.aload_n (pc := 4) (j := 0) dL_who_4 rfl rfl ?_
  refine LR.iconst (pc := 5) (v := 0) dL_who_5 (by decide) ?_
  refine LR.ialoadR (pc := 6) (j := 0) dL_who_6 rfl (by decide) ?_
  refine LR.icmp_ne (pc := 7) (tgt := 14) dL_who_7 (by decide) (fun c1 => ?_) (fun c1 => ?_)
  · replace h := ite_f c1 h
    refine LR.iload_n (pc := 14) (j := 1) dL_who_14 rfl rfl ?_
    exact LR.pick [] rfl (G_who_15 a0 x1 14 r h)
  · replace h := ite_t c1 h
    refine LR.iconst (pc := 10) (v := 0) dL_who_10 (by decide) ?_
    refine LR.goto (pc := 11) (tgt := 15) dL_who_11 (by decide) ?_
    exact LR.pick [] rfl (G_who_15 a0 0 14 r h)
noncomputable def g_ahead_35 (a0 : Nat → Int32) (z0 : Int32) : Option (Int32) :=
  if ((a0 (3 : Int32).toNatClampNeg) : Int32) = 2 then
    some (z0 / 2)
  else
    some z0
noncomputable def g_ahead (a0 : Nat → Int32) (x1 : Int32) (x2 : Int32) : Option (Int32) :=
  if ((a0 (3 : Int32).toNatClampNeg) : Int32) = 1 then
    if ((a0 (0 : Int32).toNatClampNeg) : Int32) = 0 then none else
    if ((a0 (0 : Int32).toNatClampNeg) : Int32) = 0 then none else
    some (((a0 (1 : Int32).toNatClampNeg) - ((a0 (1 : Int32).toNatClampNeg) - (a0 (1 : Int32).toNatClampNeg) / (a0 (0 : Int32).toNatClampNeg) * (a0 (0 : Int32).toNatClampNeg))) / (a0 (0 : Int32).toNatClampNeg))
  else
    if (x1 : Int32) ≤ x2 then
      g_ahead_35 a0 0
    else
      g_ahead_35 a0 (x1 - x2)
set_option maxHeartbeats 4000000 in
set_option maxRecDepth 100000 in
theorem G_ahead_35 {l : Launch} {ad : Nat → Nat} {q0 : Nat} (a0 : Nat → Int32) (z0 : Int32) {σ : HS} (r : Int32) (h : g_ahead_35 a0 z0 = some r) : LR l cL_ahead 4 (some .int) (wsU yL_ahead cL_ahead 4 (some .int)) rmL_ahead 0 0 ad [(q0, 44, a0)] (RetE cL_ahead (some .int) 0 (FI σ r)) 35 [(0, .ref q0)] [.int z0] σ [] 0 := by
  unfold g_ahead_35 at h
  refine LR.istore_n (pc := 35) (L2 := [(3, .int z0), (0, .ref q0)]) dL_ahead_35 rfl (by decide) rfl ?_
  refine LR.aload_n (pc := 36) (j := 1) dL_ahead_36 rfl rfl ?_
  refine LR.iconst (pc := 37) (v := 3) dL_ahead_37 (by decide) ?_
  refine LR.ialoadR (pc := 38) (j := 0) dL_ahead_38 rfl (by decide) ?_
  refine LR.iconst (pc := 39) (v := 2) dL_ahead_39 (by decide) ?_
  refine LR.icmp_ne (pc := 40) (tgt := 49) dL_ahead_40 (by decide) (fun c1 => ?_) (fun c1 => ?_)
  · replace h := ite_f c1 h
    refine LR.iload_n (pc := 49) (j := 0) dL_ahead_49 rfl rfl ?_
    exact LR.fin ⟨Nat.zero_le _, Or.inl ⟨_, rfl, dL_ahead_50, Or.inl rfl, ⟨by rw [Option.some.inj h], rfl, rfl⟩⟩⟩
  · replace h := ite_t c1 h
    refine LR.iload_n (pc := 43) (j := 0) dL_ahead_43 rfl rfl ?_
    refine LR.iconst (pc := 44) (v := 2) dL_ahead_44 (by decide) ?_
    refine LR.idiv (pc := 45) dL_ahead_45 (by decide) ?_
    refine LR.goto (pc := 46) (tgt := 50) dL_ahead_46 (by decide) ?_
    exact LR.fin ⟨Nat.zero_le _, Or.inl ⟨_, rfl, dL_ahead_50, Or.inl rfl, ⟨by rw [Option.some.inj h], rfl, rfl⟩⟩⟩
set_option maxHeartbeats 4000000 in
set_option maxRecDepth 100000 in
theorem G_ahead {l : Launch} {ad : Nat → Nat} {q0 : Nat} (a0 : Nat → Int32) (x1 : Int32) (x2 : Int32) {σ : HS} (r : Int32) (h : g_ahead a0 x1 x2 = some r) : LM l yL_ahead (wsU yL_ahead cL_ahead 4 (some .int)) rmL_ahead 0 [.ref q0, .int x1, .int x2] ad σ [] [(q0, 44, a0)] (FI σ r) := by
  refine LM.of (L := [(0, .ref q0), (1, .int x1), (2, .int x2)]) pn_L_ahead rfl (Nat.le_of_ble_eq_true rfl) rfl ?_
  unfold g_ahead at h
  refine LR.aload_n (pc := 0) (j := 0) dL_ahead_0 rfl rfl ?_
  refine LR.iconst (pc := 1) (v := 3) dL_ahead_1 (by decide) ?_
  refine LR.ialoadR (pc := 2) (j := 0) dL_ahead_2 rfl (by decide) ?_
  refine LR.iconst (pc := 3) (v := 1) dL_ahead_3 (by decide) ?_
  refine LR.icmp_ne (pc := 4) (tgt := 23) dL_ahead_4 (by decide) (fun c1 => ?_) (fun c1 => ?_)
  · replace h := ite_f c1 h
    refine LR.iload_n (pc := 23) (j := 1) dL_ahead_23 rfl rfl ?_
    refine LR.iload_n (pc := 24) (j := 2) dL_ahead_24 rfl rfl ?_
    refine LR.icmp_le (pc := 25) (tgt := 34) dL_ahead_25 (by decide) (fun c2 => ?_) (fun c2 => ?_)
    · replace h := ite_t c2 h
      refine LR.iconst (pc := 34) (v := 0) dL_ahead_34 (by decide) ?_
      exact LR.pick [0] rfl (G_ahead_35 a0 0 r h)
    · replace h := ite_f c2 h
      refine LR.iload_n (pc := 28) (j := 1) dL_ahead_28 rfl rfl ?_
      refine LR.iload_n (pc := 29) (j := 2) dL_ahead_29 rfl rfl ?_
      refine LR.isub (pc := 30) dL_ahead_30 ?_
      refine LR.goto (pc := 31) (tgt := 35) dL_ahead_31 (by decide) ?_
      exact LR.pick [0] rfl (G_ahead_35 a0 (x1 - x2) r h)
  · replace h := ite_t c1 h
    refine LR.aload_n (pc := 7) (j := 0) dL_ahead_7 rfl rfl ?_
    refine LR.iconst (pc := 8) (v := 1) dL_ahead_8 (by decide) ?_
    refine LR.ialoadR (pc := 9) (j := 0) dL_ahead_9 rfl (by decide) ?_
    refine LR.aload_n (pc := 10) (j := 0) dL_ahead_10 rfl rfl ?_
    refine LR.iconst (pc := 11) (v := 1) dL_ahead_11 (by decide) ?_
    refine LR.ialoadR (pc := 12) (j := 0) dL_ahead_12 rfl (by decide) ?_
    refine LR.aload_n (pc := 13) (j := 0) dL_ahead_13 rfl rfl ?_
    refine LR.iconst (pc := 14) (v := 0) dL_ahead_14 (by decide) ?_
    refine LR.ialoadR (pc := 15) (j := 0) dL_ahead_15 rfl (by decide) ?_
    obtain ⟨c3, h⟩ := gn_some h
    refine LR.irem (pc := 16) dL_ahead_16 c3 ?_
    refine LR.isub (pc := 17) dL_ahead_17 ?_
    refine LR.aload_n (pc := 18) (j := 0) dL_ahead_18 rfl rfl ?_
    refine LR.iconst (pc := 19) (v := 0) dL_ahead_19 (by decide) ?_
    refine LR.ialoadR (pc := 20) (j := 0) dL_ahead_20 rfl (by decide) ?_
    obtain ⟨c4, h⟩ := gn_some h
    refine LR.idiv (pc := 21) dL_ahead_21 c4 ?_
    exact LR.fin ⟨Nat.zero_le _, Or.inl ⟨_, rfl, dL_ahead_22, Or.inl rfl, ⟨by rw [Option.some.inj h], rfl, rfl⟩⟩⟩
noncomputable def g_said_18 (a0 : Nat → Int32) (a1 : Nat → Int32) (x2 : Int32) (z0 : Int32) : Option (Int32) :=
  if (((z0 >>> ((2 * x2) &&& 31)) &&& 3) : Int32) = 3 then
    some (-9)
  else
    some ((z0 >>> ((2 * x2) &&& 31)) &&& 3)
noncomputable def g_said (a0 : Nat → Int32) (a1 : Nat → Int32) (x2 : Int32) (x3 : Int32) : Option (Int32) :=
  if (64 : Int32) ≤ x3 then
    if ((x3 - 64) : Int32) < 0 ∨ 64 ≤ ((x3 - 64) : Int32).toNatClampNeg then none else
    g_said_18 a0 a1 x2 (a1 ((x3 - 64) : Int32).toNatClampNeg)
  else
    if (x3 : Int32) < 0 ∨ 64 ≤ (x3 : Int32).toNatClampNeg then none else
    g_said_18 a0 a1 x2 (a0 (x3 : Int32).toNatClampNeg)
set_option maxHeartbeats 4000000 in
set_option maxRecDepth 100000 in
theorem G_said_18 {l : Launch} {ad : Nat → Nat} {q0 : Nat} {q1 : Nat} (a0 : Nat → Int32) (a1 : Nat → Int32) (x2 : Int32) (z0 : Int32) {σ : HS} (r : Int32) (h : g_said_18 a0 a1 x2 z0 = some r) : LR l cL_said 5 (some .int) (wsU yL_said cL_said 5 (some .int)) rmL_said 0 0 ad [(q0, 64, a0), (q1, 64, a1)] (RetE cL_said (some .int) 0 (FI σ r)) 18 [(2, .int x2)] [.int z0] σ [] 0 := by
  unfold g_said_18 at h
  refine LR.iconst (pc := 18) (v := 2) dL_said_18 (by decide) ?_
  refine LR.iload_n (pc := 19) (j := 0) dL_said_19 rfl rfl ?_
  refine LR.imul (pc := 20) dL_said_20 ?_
  refine LR.ishr (pc := 21) dL_said_21 ?_
  refine LR.iconst (pc := 22) (v := 3) dL_said_22 (by decide) ?_
  refine LR.iand (pc := 23) dL_said_23 ?_
  refine LR.istore (pc := 24) (L2 := [(4, .int ((z0 >>> ((2 * x2) &&& 31)) &&& 3)), (2, .int x2)]) dL_said_24 (by decide) rfl ?_
  refine LR.iload (pc := 26) (j := 0) dL_said_26 rfl ?_
  refine LR.iconst (pc := 28) (v := 3) dL_said_28 (by decide) ?_
  refine LR.icmp_ne (pc := 29) (tgt := 37) dL_said_29 (by decide) (fun c1 => ?_) (fun c1 => ?_)
  · replace h := ite_f c1 h
    refine LR.iload (pc := 37) (j := 0) dL_said_37 rfl ?_
    exact LR.fin ⟨Nat.zero_le _, Or.inl ⟨_, rfl, dL_said_39, Or.inl rfl, ⟨by rw [Option.some.inj h], rfl, rfl⟩⟩⟩
  · replace h := ite_t c1 h
    refine LR.bipush (pc := 32) (v := (-9)) dL_said_32 (by decide) ?_
    refine LR.goto (pc := 34) (tgt := 39) dL_said_34 (by decide) ?_
    exact LR.fin ⟨Nat.zero_le _, Or.inl ⟨_, rfl, dL_said_39, Or.inl rfl, ⟨by rw [Option.some.inj h], rfl, rfl⟩⟩⟩
set_option maxHeartbeats 4000000 in
set_option maxRecDepth 100000 in
theorem G_said {l : Launch} {ad : Nat → Nat} {q0 : Nat} {q1 : Nat} (a0 : Nat → Int32) (a1 : Nat → Int32) (x2 : Int32) (x3 : Int32) {σ : HS} (r : Int32) (h : g_said a0 a1 x2 x3 = some r) : LM l yL_said (wsU yL_said cL_said 5 (some .int)) rmL_said 0 [.ref q0, .ref q1, .int x2, .int x3] ad σ [] [(q0, 64, a0), (q1, 64, a1)] (FI σ r) := by
  refine LM.of (L := [(0, .ref q0), (1, .ref q1), (2, .int x2), (3, .int x3)]) pn_L_said rfl (Nat.le_of_ble_eq_true rfl) rfl ?_
  unfold g_said at h
  refine LR.iload_n (pc := 0) (j := 3) dL_said_0 rfl rfl ?_
  refine LR.bipush (pc := 1) (v := 64) dL_said_1 (by decide) ?_
  refine LR.icmp_ge (pc := 3) (tgt := 12) dL_said_3 (by decide) (fun c1 => ?_) (fun c1 => ?_)
  · replace h := ite_t c1 h
    refine LR.aload_n (pc := 12) (j := 1) dL_said_12 rfl rfl ?_
    refine LR.iload_n (pc := 13) (j := 3) dL_said_13 rfl rfl ?_
    refine LR.bipush (pc := 14) (v := 64) dL_said_14 (by decide) ?_
    refine LR.isub (pc := 16) dL_said_16 ?_
    obtain ⟨c2, h⟩ := gn_some h
    refine LR.ialoadR (pc := 17) (j := 1) dL_said_17 rfl c2 ?_
    exact LR.pick [2] rfl (G_said_18 a0 a1 x2 (a1 ((x3 - 64) : Int32).toNatClampNeg) r h)
  · replace h := ite_f c1 h
    refine LR.aload_n (pc := 6) (j := 0) dL_said_6 rfl rfl ?_
    refine LR.iload_n (pc := 7) (j := 3) dL_said_7 rfl rfl ?_
    obtain ⟨c3, h⟩ := gn_some h
    refine LR.ialoadR (pc := 8) (j := 0) dL_said_8 rfl c3 ?_
    refine LR.goto (pc := 9) (tgt := 18) dL_said_9 (by decide) ?_
    exact LR.pick [2] rfl (G_said_18 a0 a1 x2 (a0 (x3 : Int32).toNatClampNeg) r h)
noncomputable def g_start (a0 : Nat → Int32) : Option (Int32) :=
  if ((a0 (3 : Int32).toNatClampNeg) : Int32) = 1 then
    bd (g_ahead a0 0 0) fun r2 =>
    some r2
  else
    some (a0 (1 : Int32).toNatClampNeg)
set_option maxHeartbeats 4000000 in
set_option maxRecDepth 100000 in
theorem G_start {l : Launch} {ad : Nat → Nat} {q0 : Nat} (a0 : Nat → Int32) {σ : HS} (r : Int32) (h : g_start a0 = some r) : LM l yL_start (wsU yL_start cL_start 1 (some .int)) rmL_start 0 [.ref q0] ad σ [] [(q0, 44, a0)] (FI σ r) := by
  refine LM.of (L := [(0, .ref q0)]) pn_L_start rfl (Nat.le_of_ble_eq_true rfl) rfl ?_
  unfold g_start at h
  refine LR.aload_n (pc := 0) (j := 0) dL_start_0 rfl rfl ?_
  refine LR.iconst (pc := 1) (v := 3) dL_start_1 (by decide) ?_
  refine LR.ialoadR (pc := 2) (j := 0) dL_start_2 rfl (by decide) ?_
  refine LR.iconst (pc := 3) (v := 1) dL_start_3 (by decide) ?_
  refine LR.icmp_ne (pc := 4) (tgt := 16) dL_start_4 (by decide) (fun c1 => ?_) (fun c1 => ?_)
  · replace h := ite_f c1 h
    refine LR.aload_n (pc := 16) (j := 0) dL_start_16 rfl rfl ?_
    refine LR.iconst (pc := 17) (v := 1) dL_start_17 (by decide) ?_
    refine LR.ialoadR (pc := 18) (j := 0) dL_start_18 rfl (by decide) ?_
    exact LR.fin ⟨Nat.zero_le _, Or.inl ⟨_, rfl, dL_start_19, Or.inl rfl, ⟨by rw [Option.some.inj h], rfl, rfl⟩⟩⟩
  · replace h := ite_t c1 h
    refine LR.aload_n (pc := 7) (j := 0) dL_start_7 rfl rfl ?_
    refine LR.iconst (pc := 8) (v := 0) dL_start_8 (by decide) ?_
    refine LR.iconst (pc := 9) (v := 0) dL_start_9 (by decide) ?_
    obtain ⟨r2, h2, h⟩ := bd_some h
    refine LR.callS0 (pc := 10) (As := [.ref q0, .int 0, .int 0]) (st := []) (as2 := []) (asR := []) (ro2 := [(q0, 44, a0)]) (mg := 0) (FIN := (FI σ r2)) [] [] dL_start_10 ⟨cd_L_ahead, sm_L_ahead, ini_L⟩ ml_L_29 (G_ahead a0 0 0 r2 h2) ⟨rfl, pd_L_ahead⟩ ⟨Nat.le_of_ble_eq_true rfl, Nat.le_of_ble_eq_true rfl⟩ ⟨rfl, rfl⟩ rfl rfl rfl rfl rfl (by decide) (Or.inl ⟨[0], rfl⟩) rfl (Nat.le_of_ble_eq_true rfl) (fun v9 σ9 as9 hF9 => ?_)
    obtain ⟨rfl, e9, rfl⟩ := hF9; replace e9 := e9.symm; subst e9
    show LR l cL_start 1 (some .int) (wsU yL_start cL_start 1 (some .int)) rmL_start 0 0 ad [(q0, 44, a0)] (RetE cL_start (some .int) 0 (FI σ r)) 13 [(0, .ref q0)] [.int r2] σ [] 0
    refine LR.goto (pc := 13) (tgt := 19) dL_start_13 (by decide) ?_
    exact LR.fin ⟨Nat.zero_le _, Or.inl ⟨_, rfl, dL_start_19, Or.inl rfl, ⟨by rw [Option.some.inj h], rfl, rfl⟩⟩⟩
noncomputable def g_all_4_b (a0 : Nat → Int32) (k4 : Int32 × Int32 → Option (Int32)) (x1 : Int32) (x2 : Int32) (x3 : Int32) : Option (Int32) :=
  if (x1 : Int32) ≤ x3 then
    some x2
  else
    if (x3 : Int32) < 0 ∨ 20 ≤ (x3 : Int32).toNatClampNeg then none else
    k4 ((x2 + (a0 (x3 : Int32).toNatClampNeg)), (x3 + 1))
noncomputable def g_all_4 (a0 : Nat → Int32) (x1 : Int32) (p : Int32 × Int32) : Option (Int32) :=
  wloop (fun k4 p => g_all_4_b a0 k4 x1 p.1 p.2) fuelN p
noncomputable def g_all (a0 : Nat → Int32) (x1 : Int32) : Option (Int32) :=
  g_all_4 a0 x1 (0, 0)
set_option maxHeartbeats 4000000 in
set_option maxRecDepth 100000 in
theorem G_all_4_b {l : Launch} {ad : Nat → Nat} {q0 : Nat} (a0 : Nat → Int32) (k4 : Int32 × Int32 → Option (Int32)) (x1 : Int32) (x2 : Int32) (x3 : Int32) {σ : HS} (hk4 : ∀ (p : Int32 × Int32) (r : Int32), k4 p = some r → LR l cL_all 4 (some .int) (wsU yL_all cL_all 4 (some .int)) rmL_all 0 0 ad [(q0, 20, a0)] (RetE cL_all (some .int) 0 (FI σ r)) 4 [(0, .ref q0), (1, .int x1), (2, .int (p.1)), (3, .int (p.2))] [] σ [] 0) (r : Int32) (h : g_all_4_b a0 k4 x1 x2 x3 = some r) : LR l cL_all 4 (some .int) (wsU yL_all cL_all 4 (some .int)) rmL_all 0 0 ad [(q0, 20, a0)] (RetE cL_all (some .int) 0 (FI σ r)) 4 [(0, .ref q0), (1, .int x1), (2, .int x2), (3, .int x3)] [] σ [] 0 := by
  unfold g_all_4_b at h
  refine LR.iload_n (pc := 4) (j := 3) dL_all_4 rfl rfl ?_
  refine LR.iload_n (pc := 5) (j := 1) dL_all_5 rfl rfl ?_
  refine LR.icmp_ge (pc := 6) (tgt := 21) dL_all_6 (by decide) (fun c1 => ?_) (fun c1 => ?_)
  · replace h := ite_t c1 h
    refine LR.iload_n (pc := 21) (j := 2) dL_all_21 rfl rfl ?_
    exact LR.fin ⟨Nat.zero_le _, Or.inl ⟨_, rfl, dL_all_22, Or.inl rfl, ⟨by rw [Option.some.inj h], rfl, rfl⟩⟩⟩
  · replace h := ite_f c1 h
    refine LR.iload_n (pc := 9) (j := 2) dL_all_9 rfl rfl ?_
    refine LR.aload_n (pc := 10) (j := 0) dL_all_10 rfl rfl ?_
    refine LR.iload_n (pc := 11) (j := 3) dL_all_11 rfl rfl ?_
    obtain ⟨c2, h⟩ := gn_some h
    refine LR.ialoadR (pc := 12) (j := 0) dL_all_12 rfl c2 ?_
    refine LR.iadd (pc := 13) dL_all_13 ?_
    refine LR.istore_n (pc := 14) (L2 := [(2, .int (x2 + (a0 (x3 : Int32).toNatClampNeg))), (0, .ref q0), (1, .int x1), (3, .int x3)]) dL_all_14 rfl (by decide) rfl ?_
    refine LR.iinc (pc := 15) (j := 3) (v := (x3 + 1)) (L2 := [(3, .int (x3 + 1)), (2, .int (x2 + (a0 (x3 : Int32).toNatClampNeg))), (0, .ref q0), (1, .int x1)]) dL_all_15 rfl rfl (by decide) rfl ?_
    refine LR.goto (pc := 18) (tgt := 4) dL_all_18 (by decide) ?_
    exact LR.pick [2, 3, 1, 0] rfl (hk4 ((x2 + (a0 (x3 : Int32).toNatClampNeg)), (x3 + 1)) r h)
theorem G_all_4 {l : Launch} {ad : Nat → Nat} {q0 : Nat} (a0 : Nat → Int32) (x1 : Int32) {σ : HS} (p : Int32 × Int32) (r : Int32) (h : g_all_4 a0 x1 p = some r) : LR l cL_all 4 (some .int) (wsU yL_all cL_all 4 (some .int)) rmL_all 0 0 ad [(q0, 20, a0)] (RetE cL_all (some .int) 0 (FI σ r)) 4 [(0, .ref q0), (1, .int x1), (2, .int (p.1)), (3, .int (p.2))] [] σ [] 0 := by
  unfold g_all_4 at h
  exact wloop_run (body := fun k4 p => g_all_4_b a0 k4 x1 p.1 p.2) (Q := (fun p r => LR l cL_all 4 (some .int) (wsU yL_all cL_all 4 (some .int)) rmL_all 0 0 ad [(q0, 20, a0)] (RetE cL_all (some .int) 0 (FI σ r)) 4 [(0, .ref q0), (1, .int x1), (2, .int (p.1)), (3, .int (p.2))] [] σ [] 0)) (fun k4 hk4 p r h => G_all_4_b a0 k4 x1 p.1 p.2 hk4 r h) fuelN p r h
set_option maxHeartbeats 4000000 in
set_option maxRecDepth 100000 in
theorem G_all {l : Launch} {ad : Nat → Nat} {q0 : Nat} (a0 : Nat → Int32) (x1 : Int32) {σ : HS} (r : Int32) (h : g_all a0 x1 = some r) : LM l yL_all (wsU yL_all cL_all 4 (some .int)) rmL_all 0 [.ref q0, .int x1] ad σ [] [(q0, 20, a0)] (FI σ r) := by
  refine LM.of (L := [(0, .ref q0), (1, .int x1)]) pn_L_all rfl (Nat.le_of_ble_eq_true rfl) rfl ?_
  unfold g_all at h
  refine LR.iconst (pc := 0) (v := 0) dL_all_0 (by decide) ?_
  refine LR.istore_n (pc := 1) (L2 := [(2, .int 0), (0, .ref q0), (1, .int x1)]) dL_all_1 rfl (by decide) rfl ?_
  refine LR.iconst (pc := 2) (v := 0) dL_all_2 (by decide) ?_
  refine LR.istore_n (pc := 3) (L2 := [(3, .int 0), (2, .int 0), (0, .ref q0), (1, .int x1)]) dL_all_3 rfl (by decide) rfl ?_
  exact LR.pick [2, 3, 1, 0] rfl (G_all_4 a0 x1 (0, 0) r h)
noncomputable def g_says_46 (a0 : Nat → Int32) (a1 : Nat → Int32) (k6 : Int32 × Int32 → Option (Int32)) (x2 : Int32) (x3 : Int32) (x5 : Int32) (z0 : Int32) : Option (Int32) :=
  k6 (z0, (x5 + 1))
noncomputable def g_says_41 (a0 : Nat → Int32) (a1 : Nat → Int32) (k6 : Int32 × Int32 → Option (Int32)) (x2 : Int32) (x3 : Int32) (x5 : Int32) : Option (Int32) :=
  g_says_46 a0 a1 k6 x2 x3 x5 1
noncomputable def g_says_45 (a0 : Nat → Int32) (a1 : Nat → Int32) (k6 : Int32 × Int32 → Option (Int32)) (x2 : Int32) (x3 : Int32) (x5 : Int32) : Option (Int32) :=
  g_says_46 a0 a1 k6 x2 x3 x5 0
noncomputable def g_says_6_b (a0 : Nat → Int32) (a1 : Nat → Int32) (k6 : Int32 × Int32 → Option (Int32)) (x2 : Int32) (x3 : Int32) (x4 : Int32) (x5 : Int32) : Option (Int32) :=
  bd (g_turns a0) fun r1 =>
  if (r1 : Int32) ≤ x5 then
    if (x4 : Int32) = 0 ∨ (x4 : Int32) = 1 then
    some x4
    else none
  else
    if (x4 : Int32) = 0 then
      bd (g_who a0 x5) fun r5 =>
      if (r5 : Int32) = x2 then
        if ((6 + x5) : Int32) < 0 ∨ 20 ≤ ((6 + x5) : Int32).toNatClampNeg then none else
        if ((a1 ((6 + x5) : Int32).toNatClampNeg) : Int32) = x3 then
          g_says_41 a0 a1 k6 x2 x3 x5
        else
          g_says_45 a0 a1 k6 x2 x3 x5
      else
        g_says_45 a0 a1 k6 x2 x3 x5
    else
      g_says_41 a0 a1 k6 x2 x3 x5
noncomputable def g_says_6 (a0 : Nat → Int32) (a1 : Nat → Int32) (x2 : Int32) (x3 : Int32) (p : Int32 × Int32) : Option (Int32) :=
  wloop (fun k6 p => g_says_6_b a0 a1 k6 x2 x3 p.1 p.2) fuelN p
noncomputable def g_says (a0 : Nat → Int32) (a1 : Nat → Int32) (x2 : Int32) (x3 : Int32) : Option (Int32) :=
  g_says_6 a0 a1 x2 x3 (0, 0)
set_option maxHeartbeats 4000000 in
set_option maxRecDepth 100000 in
theorem G_says_46 {l : Launch} {ad : Nat → Nat} {q0 : Nat} {q1 : Nat} (a0 : Nat → Int32) (a1 : Nat → Int32) (k6 : Int32 × Int32 → Option (Int32)) (x2 : Int32) (x3 : Int32) (x5 : Int32) (z0 : Int32) {σ : HS} (hk6 : ∀ (p : Int32 × Int32) (r : Int32), k6 p = some r → LR l cL_says 6 (some .boolean) (wsU yL_says cL_says 6 (some .boolean)) rmL_says 0 0 ad [(q0, 44, a0), (q1, 20, a1)] (RetE cL_says (some .boolean) 0 (FI σ r)) 6 [(0, .ref q0), (1, .ref q1), (2, .int x2), (3, .int x3), (4, .int (p.1)), (5, .int (p.2))] [] σ [] 0) (r : Int32) (h : g_says_46 a0 a1 k6 x2 x3 x5 z0 = some r) : LR l cL_says 6 (some .boolean) (wsU yL_says cL_says 6 (some .boolean)) rmL_says 0 0 ad [(q0, 44, a0), (q1, 20, a1)] (RetE cL_says (some .boolean) 0 (FI σ r)) 46 [(0, .ref q0), (1, .ref q1), (2, .int x2), (3, .int x3), (5, .int x5)] [.int z0] σ [] 0 := by
  unfold g_says_46 at h
  refine LR.istore (pc := 46) (L2 := [(4, .int z0), (0, .ref q0), (1, .ref q1), (2, .int x2), (3, .int x3), (5, .int x5)]) dL_says_46 (by decide) rfl ?_
  refine LR.iinc (pc := 48) (j := 5) (v := (x5 + 1)) (L2 := [(5, .int (x5 + 1)), (4, .int z0), (0, .ref q0), (1, .ref q1), (2, .int x2), (3, .int x3)]) dL_says_48 rfl rfl (by decide) rfl ?_
  refine LR.goto (pc := 51) (tgt := 6) dL_says_51 (by decide) ?_
  exact LR.pick [2, 3, 4, 5, 1, 0] rfl (hk6 (z0, (x5 + 1)) r h)
set_option maxHeartbeats 4000000 in
set_option maxRecDepth 100000 in
theorem G_says_41 {l : Launch} {ad : Nat → Nat} {q0 : Nat} {q1 : Nat} (a0 : Nat → Int32) (a1 : Nat → Int32) (k6 : Int32 × Int32 → Option (Int32)) (x2 : Int32) (x3 : Int32) (x5 : Int32) {σ : HS} (hk6 : ∀ (p : Int32 × Int32) (r : Int32), k6 p = some r → LR l cL_says 6 (some .boolean) (wsU yL_says cL_says 6 (some .boolean)) rmL_says 0 0 ad [(q0, 44, a0), (q1, 20, a1)] (RetE cL_says (some .boolean) 0 (FI σ r)) 6 [(0, .ref q0), (1, .ref q1), (2, .int x2), (3, .int x3), (4, .int (p.1)), (5, .int (p.2))] [] σ [] 0) (r : Int32) (h : g_says_41 a0 a1 k6 x2 x3 x5 = some r) : LR l cL_says 6 (some .boolean) (wsU yL_says cL_says 6 (some .boolean)) rmL_says 0 0 ad [(q0, 44, a0), (q1, 20, a1)] (RetE cL_says (some .boolean) 0 (FI σ r)) 41 [(0, .ref q0), (1, .ref q1), (2, .int x2), (3, .int x3), (5, .int x5)] [] σ [] 0 := by
  unfold g_says_41 at h
  refine LR.iconst (pc := 41) (v := 1) dL_says_41 (by decide) ?_
  refine LR.goto (pc := 42) (tgt := 46) dL_says_42 (by decide) ?_
  exact LR.pick [0, 1, 2, 3, 4] rfl (G_says_46 a0 a1 k6 x2 x3 x5 1 hk6 r h)
set_option maxHeartbeats 4000000 in
set_option maxRecDepth 100000 in
theorem G_says_45 {l : Launch} {ad : Nat → Nat} {q0 : Nat} {q1 : Nat} (a0 : Nat → Int32) (a1 : Nat → Int32) (k6 : Int32 × Int32 → Option (Int32)) (x2 : Int32) (x3 : Int32) (x5 : Int32) {σ : HS} (hk6 : ∀ (p : Int32 × Int32) (r : Int32), k6 p = some r → LR l cL_says 6 (some .boolean) (wsU yL_says cL_says 6 (some .boolean)) rmL_says 0 0 ad [(q0, 44, a0), (q1, 20, a1)] (RetE cL_says (some .boolean) 0 (FI σ r)) 6 [(0, .ref q0), (1, .ref q1), (2, .int x2), (3, .int x3), (4, .int (p.1)), (5, .int (p.2))] [] σ [] 0) (r : Int32) (h : g_says_45 a0 a1 k6 x2 x3 x5 = some r) : LR l cL_says 6 (some .boolean) (wsU yL_says cL_says 6 (some .boolean)) rmL_says 0 0 ad [(q0, 44, a0), (q1, 20, a1)] (RetE cL_says (some .boolean) 0 (FI σ r)) 45 [(0, .ref q0), (1, .ref q1), (2, .int x2), (3, .int x3), (5, .int x5)] [] σ [] 0 := by
  unfold g_says_45 at h
  refine LR.iconst (pc := 45) (v := 0) dL_says_45 (by decide) ?_
  exact LR.pick [0, 1, 2, 3, 4] rfl (G_says_46 a0 a1 k6 x2 x3 x5 0 hk6 r h)
set_option maxHeartbeats 4000000 in
set_option maxRecDepth 100000 in
theorem G_says_6_b {l : Launch} {ad : Nat → Nat} {q0 : Nat} {q1 : Nat} (a0 : Nat → Int32) (a1 : Nat → Int32) (k6 : Int32 × Int32 → Option (Int32)) (x2 : Int32) (x3 : Int32) (x4 : Int32) (x5 : Int32) {σ : HS} (hk6 : ∀ (p : Int32 × Int32) (r : Int32), k6 p = some r → LR l cL_says 6 (some .boolean) (wsU yL_says cL_says 6 (some .boolean)) rmL_says 0 0 ad [(q0, 44, a0), (q1, 20, a1)] (RetE cL_says (some .boolean) 0 (FI σ r)) 6 [(0, .ref q0), (1, .ref q1), (2, .int x2), (3, .int x3), (4, .int (p.1)), (5, .int (p.2))] [] σ [] 0) (r : Int32) (h : g_says_6_b a0 a1 k6 x2 x3 x4 x5 = some r) : LR l cL_says 6 (some .boolean) (wsU yL_says cL_says 6 (some .boolean)) rmL_says 0 0 ad [(q0, 44, a0), (q1, 20, a1)] (RetE cL_says (some .boolean) 0 (FI σ r)) 6 [(0, .ref q0), (1, .ref q1), (2, .int x2), (3, .int x3), (4, .int x4), (5, .int x5)] [] σ [] 0 := by
  unfold g_says_6_b at h
  refine LR.iload (pc := 6) (j := 5) dL_says_6 rfl ?_
  refine LR.aload_n (pc := 8) (j := 0) dL_says_8 rfl rfl ?_
  obtain ⟨r1, h1, h⟩ := bd_some h
  refine LR.callS0 (pc := 9) (As := [.ref q0]) (st := [.int x5]) (as2 := []) (asR := []) (ro2 := [(q0, 44, a0)]) (mg := 0) (FIN := (FI σ r1)) [] [] dL_says_9 ⟨cd_L_turns, sm_L_turns, ini_L⟩ ml_L_36 (G_turns a0 r1 h1) ⟨rfl, pd_L_turns⟩ ⟨Nat.le_of_ble_eq_true rfl, Nat.le_of_ble_eq_true rfl⟩ ⟨rfl, rfl⟩ rfl rfl rfl rfl rfl (by decide) (Or.inl ⟨[0], rfl⟩) rfl (Nat.le_of_ble_eq_true rfl) (fun v9 σ9 as9 hF9 => ?_)
  obtain ⟨rfl, e9, rfl⟩ := hF9; replace e9 := e9.symm; subst e9
  show LR l cL_says 6 (some .boolean) (wsU yL_says cL_says 6 (some .boolean)) rmL_says 0 0 ad [(q0, 44, a0), (q1, 20, a1)] (RetE cL_says (some .boolean) 0 (FI σ r)) 12 [(0, .ref q0), (1, .ref q1), (2, .int x2), (3, .int x3), (4, .int x4), (5, .int x5)] [.int r1, .int x5] σ [] 0
  refine LR.icmp_ge (pc := 12) (tgt := 54) dL_says_12 (by decide) (fun c2 => ?_) (fun c2 => ?_)
  · replace h := ite_t c2 h
    refine LR.iload (pc := 54) (j := 4) dL_says_54 rfl ?_
    obtain ⟨c3, h⟩ := gp_some h
    exact LR.fin ⟨Nat.zero_le _, Or.inl ⟨_, rfl, dL_says_56, Or.inr ⟨rfl, c3⟩, ⟨by rw [Option.some.inj h], rfl, rfl⟩⟩⟩
  · replace h := ite_f c2 h
    refine LR.iload (pc := 15) (j := 4) dL_says_15 rfl ?_
    refine LR.if_ne (pc := 17) (tgt := 41) dL_says_17 (by decide) (fun c4 => ?_) (fun c4 => ?_)
    · replace h := ite_f c4 h
      exact LR.pick [0, 1, 2, 3, 5] rfl (G_says_41 a0 a1 k6 x2 x3 x5 hk6 r h)
    · replace h := ite_t c4 h
      refine LR.aload_n (pc := 20) (j := 0) dL_says_20 rfl rfl ?_
      refine LR.iload (pc := 21) (j := 5) dL_says_21 rfl ?_
      obtain ⟨r5, h5, h⟩ := bd_some h
      refine LR.callS0 (pc := 23) (As := [.ref q0, .int x5]) (st := []) (as2 := []) (asR := []) (ro2 := [(q0, 44, a0)]) (mg := 0) (FIN := (FI σ r5)) [] [] dL_says_23 ⟨cd_L_who, sm_L_who, ini_L⟩ ml_L_33 (G_who a0 x5 r5 h5) ⟨rfl, pd_L_who⟩ ⟨Nat.le_of_ble_eq_true rfl, Nat.le_of_ble_eq_true rfl⟩ ⟨rfl, rfl⟩ rfl rfl rfl rfl rfl (by decide) (Or.inl ⟨[0], rfl⟩) rfl (Nat.le_of_ble_eq_true rfl) (fun v9 σ9 as9 hF9 => ?_)
      obtain ⟨rfl, e9, rfl⟩ := hF9; replace e9 := e9.symm; subst e9
      show LR l cL_says 6 (some .boolean) (wsU yL_says cL_says 6 (some .boolean)) rmL_says 0 0 ad [(q0, 44, a0), (q1, 20, a1)] (RetE cL_says (some .boolean) 0 (FI σ r)) 26 [(0, .ref q0), (1, .ref q1), (2, .int x2), (3, .int x3), (4, .int x4), (5, .int x5)] [.int r5] σ [] 0
      refine LR.iload_n (pc := 26) (j := 2) dL_says_26 rfl rfl ?_
      refine LR.icmp_ne (pc := 27) (tgt := 45) dL_says_27 (by decide) (fun c6 => ?_) (fun c6 => ?_)
      · replace h := ite_f c6 h
        exact LR.pick [0, 1, 2, 3, 5] rfl (G_says_45 a0 a1 k6 x2 x3 x5 hk6 r h)
      · replace h := ite_t c6 h
        refine LR.aload_n (pc := 30) (j := 1) dL_says_30 rfl rfl ?_
        refine LR.bipush (pc := 31) (v := 6) dL_says_31 (by decide) ?_
        refine LR.iload (pc := 33) (j := 5) dL_says_33 rfl ?_
        refine LR.iadd (pc := 35) dL_says_35 ?_
        obtain ⟨c7, h⟩ := gn_some h
        refine LR.ialoadR (pc := 36) (j := 1) dL_says_36 rfl c7 ?_
        refine LR.iload_n (pc := 37) (j := 3) dL_says_37 rfl rfl ?_
        refine LR.icmp_ne (pc := 38) (tgt := 45) dL_says_38 (by decide) (fun c8 => ?_) (fun c8 => ?_)
        · replace h := ite_f c8 h
          exact LR.pick [0, 1, 2, 3, 5] rfl (G_says_45 a0 a1 k6 x2 x3 x5 hk6 r h)
        · replace h := ite_t c8 h
          exact LR.pick [0, 1, 2, 3, 5] rfl (G_says_41 a0 a1 k6 x2 x3 x5 hk6 r h)
theorem G_says_6 {l : Launch} {ad : Nat → Nat} {q0 : Nat} {q1 : Nat} (a0 : Nat → Int32) (a1 : Nat → Int32) (x2 : Int32) (x3 : Int32) {σ : HS} (p : Int32 × Int32) (r : Int32) (h : g_says_6 a0 a1 x2 x3 p = some r) : LR l cL_says 6 (some .boolean) (wsU yL_says cL_says 6 (some .boolean)) rmL_says 0 0 ad [(q0, 44, a0), (q1, 20, a1)] (RetE cL_says (some .boolean) 0 (FI σ r)) 6 [(0, .ref q0), (1, .ref q1), (2, .int x2), (3, .int x3), (4, .int (p.1)), (5, .int (p.2))] [] σ [] 0 := by
  unfold g_says_6 at h
  exact wloop_run (body := fun k6 p => g_says_6_b a0 a1 k6 x2 x3 p.1 p.2) (Q := (fun p r => LR l cL_says 6 (some .boolean) (wsU yL_says cL_says 6 (some .boolean)) rmL_says 0 0 ad [(q0, 44, a0), (q1, 20, a1)] (RetE cL_says (some .boolean) 0 (FI σ r)) 6 [(0, .ref q0), (1, .ref q1), (2, .int x2), (3, .int x3), (4, .int (p.1)), (5, .int (p.2))] [] σ [] 0)) (fun k6 hk6 p r h => G_says_6_b a0 a1 k6 x2 x3 p.1 p.2 hk6 r h) fuelN p r h
set_option maxHeartbeats 4000000 in
set_option maxRecDepth 100000 in
theorem G_says {l : Launch} {ad : Nat → Nat} {q0 : Nat} {q1 : Nat} (a0 : Nat → Int32) (a1 : Nat → Int32) (x2 : Int32) (x3 : Int32) {σ : HS} (r : Int32) (h : g_says a0 a1 x2 x3 = some r) : LM l yL_says (wsU yL_says cL_says 6 (some .boolean)) rmL_says 0 [.ref q0, .ref q1, .int x2, .int x3] ad σ [] [(q0, 44, a0), (q1, 20, a1)] (FI σ r) := by
  refine LM.of (L := [(0, .ref q0), (1, .ref q1), (2, .int x2), (3, .int x3)]) pn_L_says rfl (Nat.le_of_ble_eq_true rfl) rfl ?_
  unfold g_says at h
  refine LR.iconst (pc := 0) (v := 0) dL_says_0 (by decide) ?_
  refine LR.istore (pc := 1) (L2 := [(4, .int 0), (0, .ref q0), (1, .ref q1), (2, .int x2), (3, .int x3)]) dL_says_1 (by decide) rfl ?_
  refine LR.iconst (pc := 3) (v := 0) dL_says_3 (by decide) ?_
  refine LR.istore (pc := 4) (L2 := [(5, .int 0), (4, .int 0), (0, .ref q0), (1, .ref q1), (2, .int x2), (3, .int x3)]) dL_says_4 (by decide) rfl ?_
  exact LR.pick [2, 3, 4, 5, 1, 0] rfl (G_says_6 a0 a1 x2 x3 (0, 0) r h)
