noncomputable def g_day_189 (a0 : Nat → Int32) (a1 : Nat → Int32) (a2 : Nat → Int32) (k36 : (Nat → Int32) × Int32 × Int32 → Option (Nat → Int32)) (x3 : Int32) (x4 : Int32) (a5 : Nat → Int32) (x6 : Int32) (x7 : Int32) : Option (Nat → Int32) :=
  bd (g_ahead a0 x6 x4) fun r1 =>
  k36 (a5, r1, (x7 + 1))
noncomputable def g_day_181 (a0 : Nat → Int32) (a1 : Nat → Int32) (a2 : Nat → Int32) (k36 : (Nat → Int32) × Int32 × Int32 → Option (Nat → Int32)) (k143 : (Nat → Int32) × Int32 → Option (Nat → Int32)) (x3 : Int32) (x4 : Int32) (a5 : Nat → Int32) (x6 : Int32) (x7 : Int32) (x8 : Int32) (x9 : Int32) (x10 : Int32) (z0 : Int32) (z1 : Int32) (z2 : Int32) : Option (Nat → Int32) :=
  if (z2 : Int32) < 0 ∨ 16 ≤ (z2 : Int32).toNatClampNeg then none else
  bd (some (upd a5 (z2 : Int32).toNatClampNeg (z1 + z0))) fun b2 =>
  k143 (b2, (x10 + 1))
noncomputable def g_day_143_b (a0 : Nat → Int32) (a1 : Nat → Int32) (a2 : Nat → Int32) (k36 : (Nat → Int32) × Int32 × Int32 → Option (Nat → Int32)) (k143 : (Nat → Int32) × Int32 → Option (Nat → Int32)) (x3 : Int32) (x4 : Int32) (a5 : Nat → Int32) (x6 : Int32) (x7 : Int32) (x8 : Int32) (x9 : Int32) (x10 : Int32) : Option (Nat → Int32) :=
  if ((a0 (0 : Int32).toNatClampNeg) : Int32) ≤ x10 then
    g_day_189 a0 a1 a2 k36 x3 x4 a5 x6 x7
  else
    if ((3 + x10) : Int32) < 0 ∨ 16 ≤ ((3 + x10) : Int32).toNatClampNeg then none else
    if (x10 : Int32) = x8 then
      if ((x9 + 1) : Int32) < 0 ∨ 45 ≤ ((x9 + 1) : Int32).toNatClampNeg then none else
      g_day_181 a0 a1 a2 k36 k143 x3 x4 a5 x6 x7 x8 x9 x10 (a1 ((x9 + 1) : Int32).toNatClampNeg) (a5 ((3 + x10) : Int32).toNatClampNeg) (3 + x10)
    else
      if ((x9 + 2) : Int32) < 0 ∨ 45 ≤ ((x9 + 2) : Int32).toNatClampNeg then none else
      g_day_181 a0 a1 a2 k36 k143 x3 x4 a5 x6 x7 x8 x9 x10 (a1 ((x9 + 2) : Int32).toNatClampNeg) (a5 ((3 + x10) : Int32).toNatClampNeg) (3 + x10)
noncomputable def g_day_143 (a0 : Nat → Int32) (a1 : Nat → Int32) (a2 : Nat → Int32) (k36 : (Nat → Int32) × Int32 × Int32 → Option (Nat → Int32)) (x3 : Int32) (x4 : Int32) (x6 : Int32) (x7 : Int32) (x8 : Int32) (x9 : Int32) (p : (Nat → Int32) × Int32) : Option (Nat → Int32) :=
  wloop (fun k143 p => g_day_143_b a0 a1 a2 k36 k143 x3 x4 p.1 x6 x7 x8 x9 p.2) fuelN p
noncomputable def g_day_116 (a0 : Nat → Int32) (a1 : Nat → Int32) (a2 : Nat → Int32) (k36 : (Nat → Int32) × Int32 × Int32 → Option (Nat → Int32)) (x3 : Int32) (x4 : Int32) (a5 : Nat → Int32) (x6 : Int32) (x7 : Int32) (x8 : Int32) (x9 : Int32) : Option (Nat → Int32) :=
  if (x7 : Int32) < 0 ∨ 6 ≤ (x7 : Int32).toNatClampNeg then none else
  if ((a2 (x7 : Int32).toNatClampNeg) : Int32) < 0 then
    g_day_189 a0 a1 a2 k36 x3 x4 a5 x6 x7
  else
    bd (some (upd a5 (0 : Int32).toNatClampNeg ((a5 (0 : Int32).toNatClampNeg) + 1))) fun b3 =>
    if (x9 : Int32) < 0 ∨ 45 ≤ (x9 : Int32).toNatClampNeg then none else
    g_day_143 a0 a1 a2 k36 x3 x4 (x6 - (a1 (x9 : Int32).toNatClampNeg)) x7 x8 x9 (b3, 0)
noncomputable def g_day_109 (a0 : Nat → Int32) (a1 : Nat → Int32) (a2 : Nat → Int32) (k36 : (Nat → Int32) × Int32 × Int32 → Option (Nat → Int32)) (x3 : Int32) (x4 : Int32) (a5 : Nat → Int32) (x7 : Int32) (z0 : Int32) (z1 : Int32) : Option (Nat → Int32) :=
  if (z1 : Int32) < 0 ∨ 16 ≤ (z1 : Int32).toNatClampNeg then none else
  bd (some (upd a5 (z1 : Int32).toNatClampNeg z0)) fun b2 =>
  g_day_189 a0 a1 a2 k36 x3 x4 b2 0 x7
noncomputable def g_day_36_b (a0 : Nat → Int32) (a1 : Nat → Int32) (a2 : Nat → Int32) (k36 : (Nat → Int32) × Int32 × Int32 → Option (Nat → Int32)) (x3 : Int32) (x4 : Int32) (a5 : Nat → Int32) (x6 : Int32) (x7 : Int32) : Option (Nat → Int32) :=
  if (x3 : Int32) ≤ x7 then
    bd (some (upd a5 (2 : Int32).toNatClampNeg x6)) fun b2 =>
    some b2
  else
    if ((8 + x7) : Int32) < 0 ∨ 16 ≤ ((8 + x7) : Int32).toNatClampNeg then none else
    bd (some (upd a5 ((8 + x7) : Int32).toNatClampNeg x6)) fun b4 =>
    bd (g_who a0 x7) fun r5 =>
    if (x7 : Int32) < 0 ∨ 6 ≤ (x7 : Int32).toNatClampNeg then none else
    if (x7 : Int32) < 0 ∨ 6 ≤ (x7 : Int32).toNatClampNeg then none else
    if ((a2 (x7 : Int32).toNatClampNeg) : Int32) < 0 then
      g_day_116 a0 a1 a2 k36 x3 x4 b4 x6 x7 r5 ((9 * r5) + (3 * (a2 (x7 : Int32).toNatClampNeg)))
    else
      if (((9 * r5) + (3 * (a2 (x7 : Int32).toNatClampNeg))) : Int32) < 0 ∨ 45 ≤ (((9 * r5) + (3 * (a2 (x7 : Int32).toNatClampNeg))) : Int32).toNatClampNeg then none else
      if ((a1 (((9 * r5) + (3 * (a2 (x7 : Int32).toNatClampNeg))) : Int32).toNatClampNeg) : Int32) ≤ x6 then
        g_day_116 a0 a1 a2 k36 x3 x4 b4 x6 x7 r5 ((9 * r5) + (3 * (a2 (x7 : Int32).toNatClampNeg)))
      else
        if 0 ≤ ((b4 (1 : Int32).toNatClampNeg) : Int32) then
          g_day_109 a0 a1 a2 k36 x3 x4 b4 x7 (b4 (1 : Int32).toNatClampNeg) 1
        else
          g_day_109 a0 a1 a2 k36 x3 x4 b4 x7 x7 1
noncomputable def g_day_36 (a0 : Nat → Int32) (a1 : Nat → Int32) (a2 : Nat → Int32) (x3 : Int32) (x4 : Int32) (p : (Nat → Int32) × Int32 × Int32) : Option (Nat → Int32) :=
  wloop (fun k36 p => g_day_36_b a0 a1 a2 k36 x3 x4 p.1 p.2.1 p.2.2) fuelN p
noncomputable def g_day_31 (a0 : Nat → Int32) (a1 : Nat → Int32) (a2 : Nat → Int32) (x3 : Int32) (x4 : Int32) (a5 : Nat → Int32) (z0 : Int32) : Option (Nat → Int32) :=
  g_day_36 a0 a1 a2 x3 x4 (a5, z0, 0)
noncomputable def g_day (a0 : Nat → Int32) (a1 : Nat → Int32) (a2 : Nat → Int32) (x3 : Int32) (x4 : Int32) : Option (Nat → Int32) :=
  bd (some (upd (fun _ => 0) (1 : Int32).toNatClampNeg (-9))) fun b2 =>
  if ((a0 (3 : Int32).toNatClampNeg) : Int32) = 1 then
    bd (g_ahead a0 0 0) fun r4 =>
    g_day_31 a0 a1 a2 x3 x4 b2 r4
  else
    g_day_31 a0 a1 a2 x3 x4 b2 (a0 (1 : Int32).toNatClampNeg)
set_option maxHeartbeats 4000000 in
set_option maxRecDepth 100000 in
theorem G_day_189 {l : Launch} {ad : Nat → Nat} {q0 : Nat} {q1 : Nat} {q2 : Nat} (a0 : Nat → Int32) (a1 : Nat → Int32) (a2 : Nat → Int32) (k36 : (Nat → Int32) × Int32 × Int32 → Option (Nat → Int32)) {q5 : Nat} (x3 : Int32) (x4 : Int32) (a5 : Nat → Int32) (x6 : Int32) (x7 : Int32) {σ : HS} (hk36 : ∀ (p : (Nat → Int32) × Int32 × Int32) (r : Nat → Int32), k36 p = some r → LR l cL_day 11 (some (.array .int)) (wsU yL_day cL_day 11 (some (.array .int))) rmL_day 0 0 ad [(q0, 44, a0), (q1, 45, a1), (q2, 6, a2)] (RetE cL_day (some (.array .int)) 1 (FA 16 σ r)) 36 [(0, .ref q0), (1, .ref q1), (2, .ref q2), (3, .int x3), (4, .int x4), (5, .ref q5), (6, .int (p.2.1)), (7, .int (p.2.2))] [] σ [(q5, 16, p.1)] 1) (r : Nat → Int32) (h : g_day_189 a0 a1 a2 k36 x3 x4 a5 x6 x7 = some r) : LR l cL_day 11 (some (.array .int)) (wsU yL_day cL_day 11 (some (.array .int))) rmL_day 0 0 ad [(q0, 44, a0), (q1, 45, a1), (q2, 6, a2)] (RetE cL_day (some (.array .int)) 1 (FA 16 σ r)) 189 [(0, .ref q0), (1, .ref q1), (2, .ref q2), (3, .int x3), (4, .int x4), (5, .ref q5), (6, .int x6), (7, .int x7)] [] σ [(q5, 16, a5)] 1 := by
  unfold g_day_189 at h
  refine LR.aload_n (pc := 189) (j := 0) dL_day_189 rfl rfl ?_
  refine LR.iload (pc := 190) (j := 6) dL_day_190 rfl ?_
  refine LR.iload (pc := 192) (j := 4) dL_day_192 rfl ?_
  obtain ⟨r1, h1, h⟩ := bd_some h
  refine LR.callS0 (pc := 194) (As := [.ref q0, .int x6, .int x4]) (st := []) (as2 := []) (asR := [(q5, 16, a5)]) (ro2 := [(q0, 44, a0)]) (mg := 0) (FIN := (FI σ r1)) [] [0] dL_day_194 ⟨cd_L_ahead, sm_L_ahead, ini_L⟩ ml_L_29 (G_ahead a0 x6 x4 r1 h1) ⟨rfl, pd_L_ahead⟩ ⟨Nat.le_of_ble_eq_true rfl, Nat.le_of_ble_eq_true rfl⟩ ⟨rfl, rfl⟩ rfl rfl rfl rfl rfl (by decide) (Or.inl ⟨[0], rfl⟩) rfl (Nat.le_of_ble_eq_true rfl) (fun v9 σ9 as9 hF9 => ?_)
  obtain ⟨rfl, e9, rfl⟩ := hF9; replace e9 := e9.symm; subst e9
  show LR l cL_day 11 (some (.array .int)) (wsU yL_day cL_day 11 (some (.array .int))) rmL_day 0 0 ad [(q0, 44, a0), (q1, 45, a1), (q2, 6, a2)] (RetE cL_day (some (.array .int)) 1 (FA 16 σ r)) 197 [(0, .ref q0), (1, .ref q1), (2, .ref q2), (3, .int x3), (4, .int x4), (5, .ref q5), (6, .int x6), (7, .int x7)] [.int r1] σ [(q5, 16, a5)] 1
  refine LR.istore (pc := 197) (L2 := [(6, .int r1), (0, .ref q0), (1, .ref q1), (2, .ref q2), (3, .int x3), (4, .int x4), (5, .ref q5), (7, .int x7)]) dL_day_197 (by decide) rfl ?_
  refine LR.iinc (pc := 199) (j := 7) (v := (x7 + 1)) (L2 := [(7, .int (x7 + 1)), (6, .int r1), (0, .ref q0), (1, .ref q1), (2, .ref q2), (3, .int x3), (4, .int x4), (5, .ref q5)]) dL_day_199 rfl rfl (by decide) rfl ?_
  refine LR.goto (pc := 202) (tgt := 36) dL_day_202 (by decide) ?_
  exact LR.pick [2, 3, 4, 5, 6, 7, 1, 0] rfl (hk36 (a5, r1, (x7 + 1)) r h)
set_option maxHeartbeats 4000000 in
set_option maxRecDepth 100000 in
theorem G_day_181 {l : Launch} {ad : Nat → Nat} {q0 : Nat} {q1 : Nat} {q2 : Nat} (a0 : Nat → Int32) (a1 : Nat → Int32) (a2 : Nat → Int32) (k36 : (Nat → Int32) × Int32 × Int32 → Option (Nat → Int32)) (k143 : (Nat → Int32) × Int32 → Option (Nat → Int32)) {q5 : Nat} (x3 : Int32) (x4 : Int32) (a5 : Nat → Int32) (x6 : Int32) (x7 : Int32) (x8 : Int32) (x9 : Int32) (x10 : Int32) (z0 : Int32) (z1 : Int32) (z2 : Int32) {σ : HS} (hk36 : ∀ (p : (Nat → Int32) × Int32 × Int32) (r : Nat → Int32), k36 p = some r → LR l cL_day 11 (some (.array .int)) (wsU yL_day cL_day 11 (some (.array .int))) rmL_day 0 0 ad [(q0, 44, a0), (q1, 45, a1), (q2, 6, a2)] (RetE cL_day (some (.array .int)) 1 (FA 16 σ r)) 36 [(0, .ref q0), (1, .ref q1), (2, .ref q2), (3, .int x3), (4, .int x4), (5, .ref q5), (6, .int (p.2.1)), (7, .int (p.2.2))] [] σ [(q5, 16, p.1)] 1) (hk143 : ∀ (p : (Nat → Int32) × Int32) (r : Nat → Int32), k143 p = some r → LR l cL_day 11 (some (.array .int)) (wsU yL_day cL_day 11 (some (.array .int))) rmL_day 0 0 ad [(q0, 44, a0), (q1, 45, a1), (q2, 6, a2)] (RetE cL_day (some (.array .int)) 1 (FA 16 σ r)) 143 [(0, .ref q0), (1, .ref q1), (2, .ref q2), (3, .int x3), (4, .int x4), (5, .ref q5), (6, .int x6), (7, .int x7), (8, .int x8), (9, .int x9), (10, .int (p.2))] [] σ [(q5, 16, p.1)] 1) (r : Nat → Int32) (h : g_day_181 a0 a1 a2 k36 k143 x3 x4 a5 x6 x7 x8 x9 x10 z0 z1 z2 = some r) : LR l cL_day 11 (some (.array .int)) (wsU yL_day cL_day 11 (some (.array .int))) rmL_day 0 0 ad [(q0, 44, a0), (q1, 45, a1), (q2, 6, a2)] (RetE cL_day (some (.array .int)) 1 (FA 16 σ r)) 181 [(0, .ref q0), (1, .ref q1), (2, .ref q2), (3, .int x3), (4, .int x4), (5, .ref q5), (6, .int x6), (7, .int x7), (8, .int x8), (9, .int x9), (10, .int x10)] [.int z0, .int z1, .int z2, .ref q5] σ [(q5, 16, a5)] 1 := by
  unfold g_day_181 at h
  refine LR.iadd (pc := 181) dL_day_181 ?_
  obtain ⟨c1, h⟩ := gn_some h
  obtain ⟨b2, e2, h⟩ := bd_some h
  replace e2 := Option.some.inj e2
  refine LR.iastore (pc := 182) (j := 0) (as2 := [(q5, 16, b2)]) dL_day_182 rfl c1 (by subst e2; rfl) ?_
  refine LR.iinc (pc := 183) (j := 10) (v := (x10 + 1)) (L2 := [(10, .int (x10 + 1)), (0, .ref q0), (1, .ref q1), (2, .ref q2), (3, .int x3), (4, .int x4), (5, .ref q5), (6, .int x6), (7, .int x7), (8, .int x8), (9, .int x9)]) dL_day_183 rfl rfl (by decide) rfl ?_
  refine LR.goto (pc := 186) (tgt := 143) dL_day_186 (by decide) ?_
  exact LR.pick [1, 2, 3, 4, 5, 6, 7, 8, 9, 10, 0] rfl (hk143 (b2, (x10 + 1)) r h)
set_option maxHeartbeats 4000000 in
set_option maxRecDepth 100000 in
theorem G_day_143_b {l : Launch} {ad : Nat → Nat} {q0 : Nat} {q1 : Nat} {q2 : Nat} (a0 : Nat → Int32) (a1 : Nat → Int32) (a2 : Nat → Int32) (k36 : (Nat → Int32) × Int32 × Int32 → Option (Nat → Int32)) (k143 : (Nat → Int32) × Int32 → Option (Nat → Int32)) {q5 : Nat} (x3 : Int32) (x4 : Int32) (a5 : Nat → Int32) (x6 : Int32) (x7 : Int32) (x8 : Int32) (x9 : Int32) (x10 : Int32) {σ : HS} (hk36 : ∀ (p : (Nat → Int32) × Int32 × Int32) (r : Nat → Int32), k36 p = some r → LR l cL_day 11 (some (.array .int)) (wsU yL_day cL_day 11 (some (.array .int))) rmL_day 0 0 ad [(q0, 44, a0), (q1, 45, a1), (q2, 6, a2)] (RetE cL_day (some (.array .int)) 1 (FA 16 σ r)) 36 [(0, .ref q0), (1, .ref q1), (2, .ref q2), (3, .int x3), (4, .int x4), (5, .ref q5), (6, .int (p.2.1)), (7, .int (p.2.2))] [] σ [(q5, 16, p.1)] 1) (hk143 : ∀ (p : (Nat → Int32) × Int32) (r : Nat → Int32), k143 p = some r → LR l cL_day 11 (some (.array .int)) (wsU yL_day cL_day 11 (some (.array .int))) rmL_day 0 0 ad [(q0, 44, a0), (q1, 45, a1), (q2, 6, a2)] (RetE cL_day (some (.array .int)) 1 (FA 16 σ r)) 143 [(0, .ref q0), (1, .ref q1), (2, .ref q2), (3, .int x3), (4, .int x4), (5, .ref q5), (6, .int x6), (7, .int x7), (8, .int x8), (9, .int x9), (10, .int (p.2))] [] σ [(q5, 16, p.1)] 1) (r : Nat → Int32) (h : g_day_143_b a0 a1 a2 k36 k143 x3 x4 a5 x6 x7 x8 x9 x10 = some r) : LR l cL_day 11 (some (.array .int)) (wsU yL_day cL_day 11 (some (.array .int))) rmL_day 0 0 ad [(q0, 44, a0), (q1, 45, a1), (q2, 6, a2)] (RetE cL_day (some (.array .int)) 1 (FA 16 σ r)) 143 [(0, .ref q0), (1, .ref q1), (2, .ref q2), (3, .int x3), (4, .int x4), (5, .ref q5), (6, .int x6), (7, .int x7), (8, .int x8), (9, .int x9), (10, .int x10)] [] σ [(q5, 16, a5)] 1 := by
  unfold g_day_143_b at h
  refine LR.iload (pc := 143) (j := 10) dL_day_143 rfl ?_
  refine LR.aload_n (pc := 145) (j := 0) dL_day_145 rfl rfl ?_
  refine LR.iconst (pc := 146) (v := 0) dL_day_146 (by decide) ?_
  refine LR.ialoadR (pc := 147) (j := 0) dL_day_147 rfl (by decide) ?_
  refine LR.icmp_ge (pc := 148) (tgt := 189) dL_day_148 (by decide) (fun c1 => ?_) (fun c1 => ?_)
  · replace h := ite_t c1 h
    exact LR.pick [0, 1, 2, 3, 4, 5, 6, 7] rfl (G_day_189 a0 a1 a2 k36 x3 x4 a5 x6 x7 hk36 r h)
  · replace h := ite_f c1 h
    refine LR.aload (pc := 151) (j := 5) dL_day_151 rfl ?_
    refine LR.iconst (pc := 153) (v := 3) dL_day_153 (by decide) ?_
    refine LR.iload (pc := 154) (j := 10) dL_day_154 rfl ?_
    refine LR.iadd (pc := 156) dL_day_156 ?_
    refine LR.dup2 (pc := 157) dL_day_157 rfl rfl ?_
    obtain ⟨c2, h⟩ := gn_some h
    refine LR.iaload (pc := 158) (j := 0) dL_day_158 rfl c2 ?_
    refine LR.iload (pc := 159) (j := 10) dL_day_159 rfl ?_
    refine LR.iload (pc := 161) (j := 8) dL_day_161 rfl ?_
    refine LR.icmp_ne (pc := 163) (tgt := 175) dL_day_163 (by decide) (fun c3 => ?_) (fun c3 => ?_)
    · replace h := ite_f c3 h
      refine LR.aload_n (pc := 175) (j := 1) dL_day_175 rfl rfl ?_
      refine LR.iload (pc := 176) (j := 9) dL_day_176 rfl ?_
      refine LR.iconst (pc := 178) (v := 2) dL_day_178 (by decide) ?_
      refine LR.iadd (pc := 179) dL_day_179 ?_
      obtain ⟨c4, h⟩ := gn_some h
      refine LR.ialoadR (pc := 180) (j := 1) dL_day_180 rfl c4 ?_
      exact LR.pick [0, 1, 2, 3, 4, 5, 6, 7, 8, 9, 10] rfl (G_day_181 a0 a1 a2 k36 k143 x3 x4 a5 x6 x7 x8 x9 x10 (a1 ((x9 + 2) : Int32).toNatClampNeg) (a5 ((3 + x10) : Int32).toNatClampNeg) (3 + x10) hk36 hk143 r h)
    · replace h := ite_t c3 h
      refine LR.aload_n (pc := 166) (j := 1) dL_day_166 rfl rfl ?_
      refine LR.iload (pc := 167) (j := 9) dL_day_167 rfl ?_
      refine LR.iconst (pc := 169) (v := 1) dL_day_169 (by decide) ?_
      refine LR.iadd (pc := 170) dL_day_170 ?_
      obtain ⟨c5, h⟩ := gn_some h
      refine LR.ialoadR (pc := 171) (j := 1) dL_day_171 rfl c5 ?_
      refine LR.goto (pc := 172) (tgt := 181) dL_day_172 (by decide) ?_
      exact LR.pick [0, 1, 2, 3, 4, 5, 6, 7, 8, 9, 10] rfl (G_day_181 a0 a1 a2 k36 k143 x3 x4 a5 x6 x7 x8 x9 x10 (a1 ((x9 + 1) : Int32).toNatClampNeg) (a5 ((3 + x10) : Int32).toNatClampNeg) (3 + x10) hk36 hk143 r h)
theorem G_day_143 {l : Launch} {ad : Nat → Nat} {q0 : Nat} {q1 : Nat} {q2 : Nat} (a0 : Nat → Int32) (a1 : Nat → Int32) (a2 : Nat → Int32) (k36 : (Nat → Int32) × Int32 × Int32 → Option (Nat → Int32)) {q5 : Nat} (x3 : Int32) (x4 : Int32) (x6 : Int32) (x7 : Int32) (x8 : Int32) (x9 : Int32) {σ : HS} (hk36 : ∀ (p : (Nat → Int32) × Int32 × Int32) (r : Nat → Int32), k36 p = some r → LR l cL_day 11 (some (.array .int)) (wsU yL_day cL_day 11 (some (.array .int))) rmL_day 0 0 ad [(q0, 44, a0), (q1, 45, a1), (q2, 6, a2)] (RetE cL_day (some (.array .int)) 1 (FA 16 σ r)) 36 [(0, .ref q0), (1, .ref q1), (2, .ref q2), (3, .int x3), (4, .int x4), (5, .ref q5), (6, .int (p.2.1)), (7, .int (p.2.2))] [] σ [(q5, 16, p.1)] 1) (p : (Nat → Int32) × Int32) (r : Nat → Int32) (h : g_day_143 a0 a1 a2 k36 x3 x4 x6 x7 x8 x9 p = some r) : LR l cL_day 11 (some (.array .int)) (wsU yL_day cL_day 11 (some (.array .int))) rmL_day 0 0 ad [(q0, 44, a0), (q1, 45, a1), (q2, 6, a2)] (RetE cL_day (some (.array .int)) 1 (FA 16 σ r)) 143 [(0, .ref q0), (1, .ref q1), (2, .ref q2), (3, .int x3), (4, .int x4), (5, .ref q5), (6, .int x6), (7, .int x7), (8, .int x8), (9, .int x9), (10, .int (p.2))] [] σ [(q5, 16, p.1)] 1 := by
  unfold g_day_143 at h
  exact wloop_run (body := fun k143 p => g_day_143_b a0 a1 a2 k36 k143 x3 x4 p.1 x6 x7 x8 x9 p.2) (Q := (fun p r => LR l cL_day 11 (some (.array .int)) (wsU yL_day cL_day 11 (some (.array .int))) rmL_day 0 0 ad [(q0, 44, a0), (q1, 45, a1), (q2, 6, a2)] (RetE cL_day (some (.array .int)) 1 (FA 16 σ r)) 143 [(0, .ref q0), (1, .ref q1), (2, .ref q2), (3, .int x3), (4, .int x4), (5, .ref q5), (6, .int x6), (7, .int x7), (8, .int x8), (9, .int x9), (10, .int (p.2))] [] σ [(q5, 16, p.1)] 1)) (fun k143 hk143 p r h => G_day_143_b a0 a1 a2 k36 k143 x3 x4 p.1 x6 x7 x8 x9 p.2 hk36 hk143 r h) fuelN p r h
set_option maxHeartbeats 4000000 in
set_option maxRecDepth 100000 in
theorem G_day_116 {l : Launch} {ad : Nat → Nat} {q0 : Nat} {q1 : Nat} {q2 : Nat} (a0 : Nat → Int32) (a1 : Nat → Int32) (a2 : Nat → Int32) (k36 : (Nat → Int32) × Int32 × Int32 → Option (Nat → Int32)) {q5 : Nat} (x3 : Int32) (x4 : Int32) (a5 : Nat → Int32) (x6 : Int32) (x7 : Int32) (x8 : Int32) (x9 : Int32) {σ : HS} (hk36 : ∀ (p : (Nat → Int32) × Int32 × Int32) (r : Nat → Int32), k36 p = some r → LR l cL_day 11 (some (.array .int)) (wsU yL_day cL_day 11 (some (.array .int))) rmL_day 0 0 ad [(q0, 44, a0), (q1, 45, a1), (q2, 6, a2)] (RetE cL_day (some (.array .int)) 1 (FA 16 σ r)) 36 [(0, .ref q0), (1, .ref q1), (2, .ref q2), (3, .int x3), (4, .int x4), (5, .ref q5), (6, .int (p.2.1)), (7, .int (p.2.2))] [] σ [(q5, 16, p.1)] 1) (r : Nat → Int32) (h : g_day_116 a0 a1 a2 k36 x3 x4 a5 x6 x7 x8 x9 = some r) : LR l cL_day 11 (some (.array .int)) (wsU yL_day cL_day 11 (some (.array .int))) rmL_day 0 0 ad [(q0, 44, a0), (q1, 45, a1), (q2, 6, a2)] (RetE cL_day (some (.array .int)) 1 (FA 16 σ r)) 116 [(0, .ref q0), (1, .ref q1), (2, .ref q2), (3, .int x3), (4, .int x4), (5, .ref q5), (6, .int x6), (7, .int x7), (8, .int x8), (9, .int x9)] [] σ [(q5, 16, a5)] 1 := by
  unfold g_day_116 at h
  refine LR.aload_n (pc := 116) (j := 2) dL_day_116 rfl rfl ?_
  refine LR.iload (pc := 117) (j := 7) dL_day_117 rfl ?_
  obtain ⟨c1, h⟩ := gn_some h
  refine LR.ialoadR (pc := 119) (j := 2) dL_day_119 rfl c1 ?_
  refine LR.if_lt (pc := 120) (tgt := 189) dL_day_120 (by decide) (fun c2 => ?_) (fun c2 => ?_)
  · replace h := ite_t c2 h
    exact LR.pick [0, 1, 2, 3, 4, 5, 6, 7] rfl (G_day_189 a0 a1 a2 k36 x3 x4 a5 x6 x7 hk36 r h)
  · replace h := ite_f c2 h
    refine LR.aload (pc := 123) (j := 5) dL_day_123 rfl ?_
    refine LR.iconst (pc := 125) (v := 0) dL_day_125 (by decide) ?_
    refine LR.dup2 (pc := 126) dL_day_126 rfl rfl ?_
    refine LR.iaload (pc := 127) (j := 0) dL_day_127 rfl (by decide) ?_
    refine LR.iconst (pc := 128) (v := 1) dL_day_128 (by decide) ?_
    refine LR.iadd (pc := 129) dL_day_129 ?_
    obtain ⟨b3, e3, h⟩ := bd_some h
    replace e3 := Option.some.inj e3
    refine LR.iastore (pc := 130) (j := 0) (as2 := [(q5, 16, b3)]) dL_day_130 rfl (by decide) (by subst e3; rfl) ?_
    refine LR.iload (pc := 131) (j := 6) dL_day_131 rfl ?_
    refine LR.aload_n (pc := 133) (j := 1) dL_day_133 rfl rfl ?_
    refine LR.iload (pc := 134) (j := 9) dL_day_134 rfl ?_
    obtain ⟨c4, h⟩ := gn_some h
    refine LR.ialoadR (pc := 136) (j := 1) dL_day_136 rfl c4 ?_
    refine LR.isub (pc := 137) dL_day_137 ?_
    refine LR.istore (pc := 138) (L2 := [(6, .int (x6 - (a1 (x9 : Int32).toNatClampNeg))), (0, .ref q0), (1, .ref q1), (2, .ref q2), (3, .int x3), (4, .int x4), (5, .ref q5), (7, .int x7), (8, .int x8), (9, .int x9)]) dL_day_138 (by decide) rfl ?_
    refine LR.iconst (pc := 140) (v := 0) dL_day_140 (by decide) ?_
    refine LR.istore (pc := 141) (L2 := [(10, .int 0), (6, .int (x6 - (a1 (x9 : Int32).toNatClampNeg))), (0, .ref q0), (1, .ref q1), (2, .ref q2), (3, .int x3), (4, .int x4), (5, .ref q5), (7, .int x7), (8, .int x8), (9, .int x9)]) dL_day_141 (by decide) rfl ?_
    exact LR.pick [2, 3, 4, 5, 6, 7, 1, 8, 9, 10, 0] rfl (G_day_143 a0 a1 a2 k36 x3 x4 (x6 - (a1 (x9 : Int32).toNatClampNeg)) x7 x8 x9 hk36 (b3, 0) r h)
set_option maxHeartbeats 4000000 in
set_option maxRecDepth 100000 in
theorem G_day_109 {l : Launch} {ad : Nat → Nat} {q0 : Nat} {q1 : Nat} {q2 : Nat} (a0 : Nat → Int32) (a1 : Nat → Int32) (a2 : Nat → Int32) (k36 : (Nat → Int32) × Int32 × Int32 → Option (Nat → Int32)) {q5 : Nat} (x3 : Int32) (x4 : Int32) (a5 : Nat → Int32) (x7 : Int32) (z0 : Int32) (z1 : Int32) {σ : HS} (hk36 : ∀ (p : (Nat → Int32) × Int32 × Int32) (r : Nat → Int32), k36 p = some r → LR l cL_day 11 (some (.array .int)) (wsU yL_day cL_day 11 (some (.array .int))) rmL_day 0 0 ad [(q0, 44, a0), (q1, 45, a1), (q2, 6, a2)] (RetE cL_day (some (.array .int)) 1 (FA 16 σ r)) 36 [(0, .ref q0), (1, .ref q1), (2, .ref q2), (3, .int x3), (4, .int x4), (5, .ref q5), (6, .int (p.2.1)), (7, .int (p.2.2))] [] σ [(q5, 16, p.1)] 1) (r : Nat → Int32) (h : g_day_109 a0 a1 a2 k36 x3 x4 a5 x7 z0 z1 = some r) : LR l cL_day 11 (some (.array .int)) (wsU yL_day cL_day 11 (some (.array .int))) rmL_day 0 0 ad [(q0, 44, a0), (q1, 45, a1), (q2, 6, a2)] (RetE cL_day (some (.array .int)) 1 (FA 16 σ r)) 109 [(0, .ref q0), (1, .ref q1), (2, .ref q2), (3, .int x3), (4, .int x4), (5, .ref q5), (7, .int x7)] [.int z0, .int z1, .ref q5] σ [(q5, 16, a5)] 1 := by
  unfold g_day_109 at h
  obtain ⟨c1, h⟩ := gn_some h
  obtain ⟨b2, e2, h⟩ := bd_some h
  replace e2 := Option.some.inj e2
  refine LR.iastore (pc := 109) (j := 0) (as2 := [(q5, 16, b2)]) dL_day_109 rfl c1 (by subst e2; rfl) ?_
  refine LR.iconst (pc := 110) (v := 0) dL_day_110 (by decide) ?_
  refine LR.istore (pc := 111) (L2 := [(6, .int 0), (0, .ref q0), (1, .ref q1), (2, .ref q2), (3, .int x3), (4, .int x4), (5, .ref q5), (7, .int x7)]) dL_day_111 (by decide) rfl ?_
  refine LR.goto (pc := 113) (tgt := 189) dL_day_113 (by decide) ?_
  exact LR.pick [1, 2, 3, 4, 5, 6, 0, 7] rfl (G_day_189 a0 a1 a2 k36 x3 x4 b2 0 x7 hk36 r h)
set_option maxHeartbeats 4000000 in
set_option maxRecDepth 100000 in
theorem G_day_36_b {l : Launch} {ad : Nat → Nat} {q0 : Nat} {q1 : Nat} {q2 : Nat} (a0 : Nat → Int32) (a1 : Nat → Int32) (a2 : Nat → Int32) (k36 : (Nat → Int32) × Int32 × Int32 → Option (Nat → Int32)) {q5 : Nat} (x3 : Int32) (x4 : Int32) (a5 : Nat → Int32) (x6 : Int32) (x7 : Int32) {σ : HS} (hk36 : ∀ (p : (Nat → Int32) × Int32 × Int32) (r : Nat → Int32), k36 p = some r → LR l cL_day 11 (some (.array .int)) (wsU yL_day cL_day 11 (some (.array .int))) rmL_day 0 0 ad [(q0, 44, a0), (q1, 45, a1), (q2, 6, a2)] (RetE cL_day (some (.array .int)) 1 (FA 16 σ r)) 36 [(0, .ref q0), (1, .ref q1), (2, .ref q2), (3, .int x3), (4, .int x4), (5, .ref q5), (6, .int (p.2.1)), (7, .int (p.2.2))] [] σ [(q5, 16, p.1)] 1) (r : Nat → Int32) (h : g_day_36_b a0 a1 a2 k36 x3 x4 a5 x6 x7 = some r) : LR l cL_day 11 (some (.array .int)) (wsU yL_day cL_day 11 (some (.array .int))) rmL_day 0 0 ad [(q0, 44, a0), (q1, 45, a1), (q2, 6, a2)] (RetE cL_day (some (.array .int)) 1 (FA 16 σ r)) 36 [(0, .ref q0), (1, .ref q1), (2, .ref q2), (3, .int x3), (4, .int x4), (5, .ref q5), (6, .int x6), (7, .int x7)] [] σ [(q5, 16, a5)] 1 := by
  unfold g_day_36_b at h
  refine LR.iload (pc := 36) (j := 7) dL_day_36 rfl ?_
  refine LR.iload_n (pc := 38) (j := 3) dL_day_38 rfl rfl ?_
  refine LR.icmp_ge (pc := 39) (tgt := 205) dL_day_39 (by decide) (fun c1 => ?_) (fun c1 => ?_)
  · replace h := ite_t c1 h
    refine LR.aload (pc := 205) (j := 5) dL_day_205 rfl ?_
    refine LR.iconst (pc := 207) (v := 2) dL_day_207 (by decide) ?_
    refine LR.iload (pc := 208) (j := 6) dL_day_208 rfl ?_
    obtain ⟨b2, e2, h⟩ := bd_some h
    replace e2 := Option.some.inj e2
    refine LR.iastore (pc := 210) (j := 0) (as2 := [(q5, 16, b2)]) dL_day_210 rfl (by decide) (by subst e2; rfl) ?_
    refine LR.aload (pc := 211) (j := 5) dL_day_211 rfl ?_
    refine LR.sub (as2 := [(q5, 16, b2)]) [0] rfl rfl ?_
    exact LR.fin ⟨Nat.le_of_ble_eq_true rfl, Or.inr ⟨_, rfl, dL_day_213, rfl, ⟨_, rfl, rfl, by rw [Option.some.inj h]⟩⟩⟩
  · replace h := ite_f c1 h
    refine LR.aload (pc := 42) (j := 5) dL_day_42 rfl ?_
    refine LR.bipush (pc := 44) (v := 8) dL_day_44 (by decide) ?_
    refine LR.iload (pc := 46) (j := 7) dL_day_46 rfl ?_
    refine LR.iadd (pc := 48) dL_day_48 ?_
    refine LR.iload (pc := 49) (j := 6) dL_day_49 rfl ?_
    obtain ⟨c3, h⟩ := gn_some h
    obtain ⟨b4, e4, h⟩ := bd_some h
    replace e4 := Option.some.inj e4
    refine LR.iastore (pc := 51) (j := 0) (as2 := [(q5, 16, b4)]) dL_day_51 rfl c3 (by subst e4; rfl) ?_
    refine LR.aload_n (pc := 52) (j := 0) dL_day_52 rfl rfl ?_
    refine LR.iload (pc := 53) (j := 7) dL_day_53 rfl ?_
    obtain ⟨r5, h5, h⟩ := bd_some h
    refine LR.callS0 (pc := 55) (As := [.ref q0, .int x7]) (st := []) (as2 := []) (asR := [(q5, 16, b4)]) (ro2 := [(q0, 44, a0)]) (mg := 0) (FIN := (FI σ r5)) [] [0] dL_day_55 ⟨cd_L_who, sm_L_who, ini_L⟩ ml_L_33 (G_who a0 x7 r5 h5) ⟨rfl, pd_L_who⟩ ⟨Nat.le_of_ble_eq_true rfl, Nat.le_of_ble_eq_true rfl⟩ ⟨rfl, rfl⟩ rfl rfl rfl rfl rfl (by decide) (Or.inl ⟨[0], rfl⟩) rfl (Nat.le_of_ble_eq_true rfl) (fun v9 σ9 as9 hF9 => ?_)
    obtain ⟨rfl, e9, rfl⟩ := hF9; replace e9 := e9.symm; subst e9
    show LR l cL_day 11 (some (.array .int)) (wsU yL_day cL_day 11 (some (.array .int))) rmL_day 0 0 ad [(q0, 44, a0), (q1, 45, a1), (q2, 6, a2)] (RetE cL_day (some (.array .int)) 1 (FA 16 σ r)) 58 [(0, .ref q0), (1, .ref q1), (2, .ref q2), (3, .int x3), (4, .int x4), (5, .ref q5), (6, .int x6), (7, .int x7)] [.int r5] σ [(q5, 16, b4)] 1
    refine LR.istore (pc := 58) (L2 := [(8, .int r5), (0, .ref q0), (1, .ref q1), (2, .ref q2), (3, .int x3), (4, .int x4), (5, .ref q5), (6, .int x6), (7, .int x7)]) dL_day_58 (by decide) rfl ?_
    refine LR.bipush (pc := 60) (v := 9) dL_day_60 (by decide) ?_
    refine LR.iload (pc := 62) (j := 0) dL_day_62 rfl ?_
    refine LR.imul (pc := 64) dL_day_64 ?_
    refine LR.iconst (pc := 65) (v := 3) dL_day_65 (by decide) ?_
    refine LR.aload_n (pc := 66) (j := 3) dL_day_66 rfl rfl ?_
    refine LR.iload (pc := 67) (j := 8) dL_day_67 rfl ?_
    obtain ⟨c6, h⟩ := gn_some h
    refine LR.ialoadR (pc := 69) (j := 2) dL_day_69 rfl c6 ?_
    refine LR.imul (pc := 70) dL_day_70 ?_
    refine LR.iadd (pc := 71) dL_day_71 ?_
    refine LR.istore (pc := 72) (L2 := [(9, .int ((9 * r5) + (3 * (a2 (x7 : Int32).toNatClampNeg)))), (8, .int r5), (0, .ref q0), (1, .ref q1), (2, .ref q2), (3, .int x3), (4, .int x4), (5, .ref q5), (6, .int x6), (7, .int x7)]) dL_day_72 (by decide) rfl ?_
    refine LR.aload_n (pc := 74) (j := 4) dL_day_74 rfl rfl ?_
    refine LR.iload (pc := 75) (j := 9) dL_day_75 rfl ?_
    obtain ⟨c7, h⟩ := gn_some h
    refine LR.ialoadR (pc := 77) (j := 2) dL_day_77 rfl c7 ?_
    refine LR.if_lt (pc := 78) (tgt := 116) dL_day_78 (by decide) (fun c8 => ?_) (fun c8 => ?_)
    · replace h := ite_t c8 h
      exact LR.pick [2, 3, 4, 5, 6, 7, 8, 9, 1, 0] rfl (G_day_116 a0 a1 a2 k36 x3 x4 b4 x6 x7 r5 ((9 * r5) + (3 * (a2 (x7 : Int32).toNatClampNeg))) hk36 r h)
    · replace h := ite_f c8 h
      refine LR.aload_n (pc := 81) (j := 3) dL_day_81 rfl rfl ?_
      refine LR.iload (pc := 82) (j := 0) dL_day_82 rfl ?_
      obtain ⟨c9, h⟩ := gn_some h
      refine LR.ialoadR (pc := 84) (j := 1) dL_day_84 rfl c9 ?_
      refine LR.iload (pc := 85) (j := 8) dL_day_85 rfl ?_
      refine LR.icmp_le (pc := 87) (tgt := 116) dL_day_87 (by decide) (fun c10 => ?_) (fun c10 => ?_)
      · replace h := ite_t c10 h
        exact LR.pick [2, 3, 4, 5, 6, 7, 8, 9, 1, 0] rfl (G_day_116 a0 a1 a2 k36 x3 x4 b4 x6 x7 r5 ((9 * r5) + (3 * (a2 (x7 : Int32).toNatClampNeg))) hk36 r h)
      · replace h := ite_f c10 h
        refine LR.aload (pc := 90) (j := 7) dL_day_90 rfl ?_
        refine LR.iconst (pc := 92) (v := 1) dL_day_92 (by decide) ?_
        refine LR.aload (pc := 93) (j := 7) dL_day_93 rfl ?_
        refine LR.iconst (pc := 95) (v := 1) dL_day_95 (by decide) ?_
        refine LR.iaload (pc := 96) (j := 0) dL_day_96 rfl (by decide) ?_
        refine LR.if_ge (pc := 97) (tgt := 105) dL_day_97 (by decide) (fun c11 => ?_) (fun c11 => ?_)
        · replace h := ite_t c11 h
          refine LR.aload (pc := 105) (j := 7) dL_day_105 rfl ?_
          refine LR.iconst (pc := 107) (v := 1) dL_day_107 (by decide) ?_
          refine LR.iaload (pc := 108) (j := 0) dL_day_108 rfl (by decide) ?_
          exact LR.pick [2, 3, 4, 5, 6, 7, 9] rfl (G_day_109 a0 a1 a2 k36 x3 x4 b4 x7 (b4 (1 : Int32).toNatClampNeg) 1 hk36 r h)
        · replace h := ite_f c11 h
          refine LR.iload (pc := 100) (j := 9) dL_day_100 rfl ?_
          refine LR.goto (pc := 102) (tgt := 109) dL_day_102 (by decide) ?_
          exact LR.pick [2, 3, 4, 5, 6, 7, 9] rfl (G_day_109 a0 a1 a2 k36 x3 x4 b4 x7 x7 1 hk36 r h)
theorem G_day_36 {l : Launch} {ad : Nat → Nat} {q0 : Nat} {q1 : Nat} {q2 : Nat} (a0 : Nat → Int32) (a1 : Nat → Int32) (a2 : Nat → Int32) {q5 : Nat} (x3 : Int32) (x4 : Int32) {σ : HS} (p : (Nat → Int32) × Int32 × Int32) (r : Nat → Int32) (h : g_day_36 a0 a1 a2 x3 x4 p = some r) : LR l cL_day 11 (some (.array .int)) (wsU yL_day cL_day 11 (some (.array .int))) rmL_day 0 0 ad [(q0, 44, a0), (q1, 45, a1), (q2, 6, a2)] (RetE cL_day (some (.array .int)) 1 (FA 16 σ r)) 36 [(0, .ref q0), (1, .ref q1), (2, .ref q2), (3, .int x3), (4, .int x4), (5, .ref q5), (6, .int (p.2.1)), (7, .int (p.2.2))] [] σ [(q5, 16, p.1)] 1 := by
  unfold g_day_36 at h
  exact wloop_run (body := fun k36 p => g_day_36_b a0 a1 a2 k36 x3 x4 p.1 p.2.1 p.2.2) (Q := (fun p r => LR l cL_day 11 (some (.array .int)) (wsU yL_day cL_day 11 (some (.array .int))) rmL_day 0 0 ad [(q0, 44, a0), (q1, 45, a1), (q2, 6, a2)] (RetE cL_day (some (.array .int)) 1 (FA 16 σ r)) 36 [(0, .ref q0), (1, .ref q1), (2, .ref q2), (3, .int x3), (4, .int x4), (5, .ref q5), (6, .int (p.2.1)), (7, .int (p.2.2))] [] σ [(q5, 16, p.1)] 1)) (fun k36 hk36 p r h => G_day_36_b a0 a1 a2 k36 x3 x4 p.1 p.2.1 p.2.2 hk36 r h) fuelN p r h
set_option maxHeartbeats 4000000 in
set_option maxRecDepth 100000 in
theorem G_day_31 {l : Launch} {ad : Nat → Nat} {q0 : Nat} {q1 : Nat} {q2 : Nat} (a0 : Nat → Int32) (a1 : Nat → Int32) (a2 : Nat → Int32) {q5 : Nat} (x3 : Int32) (x4 : Int32) (a5 : Nat → Int32) (z0 : Int32) {σ : HS} (r : Nat → Int32) (h : g_day_31 a0 a1 a2 x3 x4 a5 z0 = some r) : LR l cL_day 11 (some (.array .int)) (wsU yL_day cL_day 11 (some (.array .int))) rmL_day 0 0 ad [(q0, 44, a0), (q1, 45, a1), (q2, 6, a2)] (RetE cL_day (some (.array .int)) 1 (FA 16 σ r)) 31 [(0, .ref q0), (1, .ref q1), (2, .ref q2), (3, .int x3), (4, .int x4), (5, .ref q5)] [.int z0] σ [(q5, 16, a5)] 1 := by
  unfold g_day_31 at h
  refine LR.istore (pc := 31) (L2 := [(6, .int z0), (0, .ref q0), (1, .ref q1), (2, .ref q2), (3, .int x3), (4, .int x4), (5, .ref q5)]) dL_day_31 (by decide) rfl ?_
  refine LR.iconst (pc := 33) (v := 0) dL_day_33 (by decide) ?_
  refine LR.istore (pc := 34) (L2 := [(7, .int 0), (6, .int z0), (0, .ref q0), (1, .ref q1), (2, .ref q2), (3, .int x3), (4, .int x4), (5, .ref q5)]) dL_day_34 (by decide) rfl ?_
  exact LR.pick [2, 3, 4, 5, 6, 7, 1, 0] rfl (G_day_36 a0 a1 a2 x3 x4 (a5, z0, 0) r h)
set_option maxHeartbeats 4000000 in
set_option maxRecDepth 100000 in
theorem G_day {l : Launch} {ad : Nat → Nat} {q0 : Nat} {q1 : Nat} {q2 : Nat} (a0 : Nat → Int32) (a1 : Nat → Int32) (a2 : Nat → Int32) (x3 : Int32) (x4 : Int32) {σ : HS} (r : Nat → Int32) (h : g_day a0 a1 a2 x3 x4 = some r) : LM l yL_day (wsU yL_day cL_day 11 (some (.array .int))) rmL_day 1 [.ref q0, .ref q1, .ref q2, .int x3, .int x4] ad σ [] [(q0, 44, a0), (q1, 45, a1), (q2, 6, a2)] (FA 16 σ r) := by
  refine LM.of (L := [(0, .ref q0), (1, .ref q1), (2, .ref q2), (3, .int x3), (4, .int x4)]) pn_L_day rfl (Nat.le_of_ble_eq_true rfl) rfl ?_
  unfold g_day at h
  refine LR.bipush (pc := 0) (v := 16) dL_day_0 (by decide) ?_
  refine LR.newa (pc := 2) (N := 16) dL_day_2 (by decide) (by decide) (by decide) ⟨Nat.le_of_ble_eq_true rfl, Nat.le_of_ble_eq_true rfl⟩ (fun qn1 => ?_)
  show LR l cL_day 11 (some (.array .int)) (wsU yL_day cL_day 11 (some (.array .int))) rmL_day 0 0 ad [(q0, 44, a0), (q1, 45, a1), (q2, 6, a2)] (RetE cL_day (some (.array .int)) 1 (FA 16 σ r)) 4 [(0, .ref q0), (1, .ref q1), (2, .ref q2), (3, .int x3), (4, .int x4)] [.ref qn1] σ [(qn1, 16, (fun _ => 0))] 1
  refine LR.astore (pc := 4) (L2 := [(5, .ref qn1), (0, .ref q0), (1, .ref q1), (2, .ref q2), (3, .int x3), (4, .int x4)]) dL_day_4 (by decide) rfl ?_
  refine LR.aload (pc := 6) (j := 0) dL_day_6 rfl ?_
  refine LR.iconst (pc := 8) (v := 1) dL_day_8 (by decide) ?_
  refine LR.bipush (pc := 9) (v := (-9)) dL_day_9 (by decide) ?_
  obtain ⟨b2, e2, h⟩ := bd_some h
  replace e2 := Option.some.inj e2
  refine LR.iastore (pc := 11) (j := 0) (as2 := [(qn1, 16, b2)]) dL_day_11 rfl (by decide) (by subst e2; rfl) ?_
  refine LR.aload_n (pc := 12) (j := 1) dL_day_12 rfl rfl ?_
  refine LR.iconst (pc := 13) (v := 3) dL_day_13 (by decide) ?_
  refine LR.ialoadR (pc := 14) (j := 0) dL_day_14 rfl (by decide) ?_
  refine LR.iconst (pc := 15) (v := 1) dL_day_15 (by decide) ?_
  refine LR.icmp_ne (pc := 16) (tgt := 28) dL_day_16 (by decide) (fun c3 => ?_) (fun c3 => ?_)
  · replace h := ite_f c3 h
    refine LR.aload_n (pc := 28) (j := 1) dL_day_28 rfl rfl ?_
    refine LR.iconst (pc := 29) (v := 1) dL_day_29 (by decide) ?_
    refine LR.ialoadR (pc := 30) (j := 0) dL_day_30 rfl (by decide) ?_
    exact LR.pick [1, 2, 3, 4, 5, 0] rfl (G_day_31 a0 a1 a2 x3 x4 b2 (a0 (1 : Int32).toNatClampNeg) r h)
  · replace h := ite_t c3 h
    refine LR.aload_n (pc := 19) (j := 1) dL_day_19 rfl rfl ?_
    refine LR.iconst (pc := 20) (v := 0) dL_day_20 (by decide) ?_
    refine LR.iconst (pc := 21) (v := 0) dL_day_21 (by decide) ?_
    obtain ⟨r4, h4, h⟩ := bd_some h
    refine LR.callS0 (pc := 22) (As := [.ref q0, .int 0, .int 0]) (st := []) (as2 := []) (asR := [(qn1, 16, b2)]) (ro2 := [(q0, 44, a0)]) (mg := 0) (FIN := (FI σ r4)) [] [0] dL_day_22 ⟨cd_L_ahead, sm_L_ahead, ini_L⟩ ml_L_29 (G_ahead a0 0 0 r4 h4) ⟨rfl, pd_L_ahead⟩ ⟨Nat.le_of_ble_eq_true rfl, Nat.le_of_ble_eq_true rfl⟩ ⟨rfl, rfl⟩ rfl rfl rfl rfl rfl (by decide) (Or.inl ⟨[0], rfl⟩) rfl (Nat.le_of_ble_eq_true rfl) (fun v9 σ9 as9 hF9 => ?_)
    obtain ⟨rfl, e9, rfl⟩ := hF9; replace e9 := e9.symm; subst e9
    show LR l cL_day 11 (some (.array .int)) (wsU yL_day cL_day 11 (some (.array .int))) rmL_day 0 0 ad [(q0, 44, a0), (q1, 45, a1), (q2, 6, a2)] (RetE cL_day (some (.array .int)) 1 (FA 16 σ r)) 25 [(5, .ref qn1), (0, .ref q0), (1, .ref q1), (2, .ref q2), (3, .int x3), (4, .int x4)] [.int r4] σ [(qn1, 16, b2)] 1
    refine LR.goto (pc := 25) (tgt := 31) dL_day_25 (by decide) ?_
    exact LR.pick [1, 2, 3, 4, 5, 0] rfl (G_day_31 a0 a1 a2 x3 x4 b2 r4 r h)
noncomputable def g_from_167 (a0 : Nat → Int32) (a1 : Nat → Int32) (a2 : Nat → Int32) (a3 : Nat → Int32) (k14 : (Nat → Int32) × Int32 × Int32 → Option (Nat → Int32)) (x4 : Int32) (x6 : Int32) (a7 : Nat → Int32) (x8 : Int32) (x9 : Int32) : Option (Nat → Int32) :=
  bd (g_ahead a0 x8 (a0 (2 : Int32).toNatClampNeg)) fun r1 =>
  k14 (a7, r1, (x9 + 1))
noncomputable def g_from_159 (a0 : Nat → Int32) (a1 : Nat → Int32) (a2 : Nat → Int32) (a3 : Nat → Int32) (k14 : (Nat → Int32) × Int32 × Int32 → Option (Nat → Int32)) (k123 : (Nat → Int32) × Int32 → Option (Nat → Int32)) (x4 : Int32) (x6 : Int32) (a7 : Nat → Int32) (x8 : Int32) (x9 : Int32) (x10 : Int32) (x12 : Int32) (x13 : Int32) (z0 : Int32) (z1 : Int32) (z2 : Int32) : Option (Nat → Int32) :=
  if (z2 : Int32) < 0 ∨ 20 ≤ (z2 : Int32).toNatClampNeg then none else
  bd (some (upd a7 (z2 : Int32).toNatClampNeg (z1 + z0))) fun b2 =>
  k123 (b2, (x13 + 1))
noncomputable def g_from_123_b (a0 : Nat → Int32) (a1 : Nat → Int32) (a2 : Nat → Int32) (a3 : Nat → Int32) (k14 : (Nat → Int32) × Int32 × Int32 → Option (Nat → Int32)) (k123 : (Nat → Int32) × Int32 → Option (Nat → Int32)) (x4 : Int32) (x6 : Int32) (a7 : Nat → Int32) (x8 : Int32) (x9 : Int32) (x10 : Int32) (x12 : Int32) (x13 : Int32) : Option (Nat → Int32) :=
  if ((a0 (0 : Int32).toNatClampNeg) : Int32) ≤ x13 then
    g_from_167 a0 a1 a2 a3 k14 x4 x6 a7 x8 x9
  else
    if (x13 : Int32) < 0 ∨ 20 ≤ (x13 : Int32).toNatClampNeg then none else
    if (x13 : Int32) = x10 then
      if ((x12 + 1) : Int32) < 0 ∨ 45 ≤ ((x12 + 1) : Int32).toNatClampNeg then none else
      g_from_159 a0 a1 a2 a3 k14 k123 x4 x6 a7 x8 x9 x10 x12 x13 (a1 ((x12 + 1) : Int32).toNatClampNeg) (a7 (x13 : Int32).toNatClampNeg) x13
    else
      if ((x12 + 2) : Int32) < 0 ∨ 45 ≤ ((x12 + 2) : Int32).toNatClampNeg then none else
      g_from_159 a0 a1 a2 a3 k14 k123 x4 x6 a7 x8 x9 x10 x12 x13 (a1 ((x12 + 2) : Int32).toNatClampNeg) (a7 (x13 : Int32).toNatClampNeg) x13
noncomputable def g_from_123 (a0 : Nat → Int32) (a1 : Nat → Int32) (a2 : Nat → Int32) (a3 : Nat → Int32) (k14 : (Nat → Int32) × Int32 × Int32 → Option (Nat → Int32)) (x4 : Int32) (x6 : Int32) (x8 : Int32) (x9 : Int32) (x10 : Int32) (x12 : Int32) (p : (Nat → Int32) × Int32) : Option (Nat → Int32) :=
  wloop (fun k123 p => g_from_123_b a0 a1 a2 a3 k14 k123 x4 x6 p.1 x8 x9 x10 x12 p.2) fuelN p
noncomputable def g_from_106 (a0 : Nat → Int32) (a1 : Nat → Int32) (a2 : Nat → Int32) (a3 : Nat → Int32) (k14 : (Nat → Int32) × Int32 × Int32 → Option (Nat → Int32)) (x4 : Int32) (x6 : Int32) (a7 : Nat → Int32) (x8 : Int32) (x9 : Int32) (x10 : Int32) (x11 : Int32) (x12 : Int32) : Option (Nat → Int32) :=
  if (x11 : Int32) < 0 then
    g_from_167 a0 a1 a2 a3 k14 x4 x6 a7 x8 x9
  else
    if (x12 : Int32) < 0 ∨ 45 ≤ (x12 : Int32).toNatClampNeg then none else
    g_from_123 a0 a1 a2 a3 k14 x4 x6 (x8 - (a1 (x12 : Int32).toNatClampNeg)) x9 x10 x12 (a7, 0)
noncomputable def g_from_52 (a0 : Nat → Int32) (a1 : Nat → Int32) (a2 : Nat → Int32) (a3 : Nat → Int32) (k14 : (Nat → Int32) × Int32 × Int32 → Option (Nat → Int32)) (x4 : Int32) (x6 : Int32) (a7 : Nat → Int32) (x8 : Int32) (x9 : Int32) (x10 : Int32) (z0 : Int32) : Option (Nat → Int32) :=
  if ((6 + x9) : Int32) < 0 ∨ 20 ≤ ((6 + x9) : Int32).toNatClampNeg then none else
  bd (some (upd a7 ((6 + x9) : Int32).toNatClampNeg z0)) fun b2 =>
  if ((12 + x9) : Int32) < 0 ∨ 20 ≤ ((12 + x9) : Int32).toNatClampNeg then none else
  bd (some (upd b2 ((12 + x9) : Int32).toNatClampNeg x8)) fun b4 =>
  if (z0 : Int32) < 0 then
    g_from_106 a0 a1 a2 a3 k14 x4 x6 b4 x8 x9 x10 z0 ((9 * x10) + (3 * z0))
  else
    if (((9 * x10) + (3 * z0)) : Int32) < 0 ∨ 45 ≤ (((9 * x10) + (3 * z0)) : Int32).toNatClampNeg then none else
    if ((a1 (((9 * x10) + (3 * z0)) : Int32).toNatClampNeg) : Int32) ≤ x8 then
      g_from_106 a0 a1 a2 a3 k14 x4 x6 b4 x8 x9 x10 z0 ((9 * x10) + (3 * z0))
    else
      g_from_167 a0 a1 a2 a3 k14 x4 x6 b4 0 x9
noncomputable def g_from_14_b (a0 : Nat → Int32) (a1 : Nat → Int32) (a2 : Nat → Int32) (a3 : Nat → Int32) (k14 : (Nat → Int32) × Int32 × Int32 → Option (Nat → Int32)) (x4 : Int32) (x6 : Int32) (a7 : Nat → Int32) (x8 : Int32) (x9 : Int32) : Option (Nat → Int32) :=
  bd (g_turns a0) fun r1 =>
  if (r1 : Int32) ≤ x9 then
    bd (some (upd a7 (5 : Int32).toNatClampNeg x8)) fun b3 =>
    some b3
  else
    bd (g_who a0 x9) fun r4 =>
    if (x9 : Int32) = x4 then
      g_from_52 a0 a1 a2 a3 k14 x4 x6 a7 x8 x9 r4 x6
    else
      bd (g_said a2 a3 x9 x8) fun r6 =>
      g_from_52 a0 a1 a2 a3 k14 x4 x6 a7 x8 x9 r4 r6
noncomputable def g_from_14 (a0 : Nat → Int32) (a1 : Nat → Int32) (a2 : Nat → Int32) (a3 : Nat → Int32) (x4 : Int32) (x6 : Int32) (p : (Nat → Int32) × Int32 × Int32) : Option (Nat → Int32) :=
  wloop (fun k14 p => g_from_14_b a0 a1 a2 a3 k14 x4 x6 p.1 p.2.1 p.2.2) fuelN p
noncomputable def g_from (a0 : Nat → Int32) (a1 : Nat → Int32) (a2 : Nat → Int32) (a3 : Nat → Int32) (x4 : Int32) (x5 : Int32) (x6 : Int32) : Option (Nat → Int32) :=
  g_from_14 a0 a1 a2 a3 x4 x6 ((fun _ => 0), x5, x4)
set_option maxHeartbeats 4000000 in
set_option maxRecDepth 100000 in
theorem G_from_167 {l : Launch} {ad : Nat → Nat} {q0 : Nat} {q1 : Nat} {q2 : Nat} {q3 : Nat} (a0 : Nat → Int32) (a1 : Nat → Int32) (a2 : Nat → Int32) (a3 : Nat → Int32) (k14 : (Nat → Int32) × Int32 × Int32 → Option (Nat → Int32)) {q7 : Nat} (x4 : Int32) (x6 : Int32) (a7 : Nat → Int32) (x8 : Int32) (x9 : Int32) {σ : HS} (hk14 : ∀ (p : (Nat → Int32) × Int32 × Int32) (r : Nat → Int32), k14 p = some r → LR l cL_from 14 (some (.array .int)) (wsU yL_from cL_from 14 (some (.array .int))) rmL_from 0 0 ad [(q0, 44, a0), (q1, 45, a1), (q2, 64, a2), (q3, 64, a3)] (RetE cL_from (some (.array .int)) 1 (FA 20 σ r)) 14 [(0, .ref q0), (1, .ref q1), (2, .ref q2), (3, .ref q3), (4, .int x4), (6, .int x6), (7, .ref q7), (8, .int (p.2.1)), (9, .int (p.2.2))] [] σ [(q7, 20, p.1)] 1) (r : Nat → Int32) (h : g_from_167 a0 a1 a2 a3 k14 x4 x6 a7 x8 x9 = some r) : LR l cL_from 14 (some (.array .int)) (wsU yL_from cL_from 14 (some (.array .int))) rmL_from 0 0 ad [(q0, 44, a0), (q1, 45, a1), (q2, 64, a2), (q3, 64, a3)] (RetE cL_from (some (.array .int)) 1 (FA 20 σ r)) 167 [(0, .ref q0), (1, .ref q1), (2, .ref q2), (3, .ref q3), (4, .int x4), (6, .int x6), (7, .ref q7), (8, .int x8), (9, .int x9)] [] σ [(q7, 20, a7)] 1 := by
  unfold g_from_167 at h
  refine LR.aload_n (pc := 167) (j := 0) dL_from_167 rfl rfl ?_
  refine LR.iload (pc := 168) (j := 7) dL_from_168 rfl ?_
  refine LR.aload_n (pc := 170) (j := 0) dL_from_170 rfl rfl ?_
  refine LR.iconst (pc := 171) (v := 2) dL_from_171 (by decide) ?_
  refine LR.ialoadR (pc := 172) (j := 0) dL_from_172 rfl (by decide) ?_
  obtain ⟨r1, h1, h⟩ := bd_some h
  refine LR.callS0 (pc := 173) (As := [.ref q0, .int x8, .int (a0 (2 : Int32).toNatClampNeg)]) (st := []) (as2 := []) (asR := [(q7, 20, a7)]) (ro2 := [(q0, 44, a0)]) (mg := 0) (FIN := (FI σ r1)) [] [0] dL_from_173 ⟨cd_L_ahead, sm_L_ahead, ini_L⟩ ml_L_29 (G_ahead a0 x8 (a0 (2 : Int32).toNatClampNeg) r1 h1) ⟨rfl, pd_L_ahead⟩ ⟨Nat.le_of_ble_eq_true rfl, Nat.le_of_ble_eq_true rfl⟩ ⟨rfl, rfl⟩ rfl rfl rfl rfl rfl (by decide) (Or.inl ⟨[0], rfl⟩) rfl (Nat.le_of_ble_eq_true rfl) (fun v9 σ9 as9 hF9 => ?_)
  obtain ⟨rfl, e9, rfl⟩ := hF9; replace e9 := e9.symm; subst e9
  show LR l cL_from 14 (some (.array .int)) (wsU yL_from cL_from 14 (some (.array .int))) rmL_from 0 0 ad [(q0, 44, a0), (q1, 45, a1), (q2, 64, a2), (q3, 64, a3)] (RetE cL_from (some (.array .int)) 1 (FA 20 σ r)) 176 [(0, .ref q0), (1, .ref q1), (2, .ref q2), (3, .ref q3), (4, .int x4), (6, .int x6), (7, .ref q7), (8, .int x8), (9, .int x9)] [.int r1] σ [(q7, 20, a7)] 1
  refine LR.istore (pc := 176) (L2 := [(8, .int r1), (0, .ref q0), (1, .ref q1), (2, .ref q2), (3, .ref q3), (4, .int x4), (6, .int x6), (7, .ref q7), (9, .int x9)]) dL_from_176 (by decide) rfl ?_
  refine LR.iinc (pc := 178) (j := 8) (v := (x9 + 1)) (L2 := [(9, .int (x9 + 1)), (8, .int r1), (0, .ref q0), (1, .ref q1), (2, .ref q2), (3, .ref q3), (4, .int x4), (6, .int x6), (7, .ref q7)]) dL_from_178 rfl rfl (by decide) rfl ?_
  refine LR.goto (pc := 181) (tgt := 14) dL_from_181 (by decide) ?_
  exact LR.pick [2, 3, 4, 5, 6, 7, 8, 1, 0] rfl (hk14 (a7, r1, (x9 + 1)) r h)
set_option maxHeartbeats 4000000 in
set_option maxRecDepth 100000 in
theorem G_from_159 {l : Launch} {ad : Nat → Nat} {q0 : Nat} {q1 : Nat} {q2 : Nat} {q3 : Nat} (a0 : Nat → Int32) (a1 : Nat → Int32) (a2 : Nat → Int32) (a3 : Nat → Int32) (k14 : (Nat → Int32) × Int32 × Int32 → Option (Nat → Int32)) (k123 : (Nat → Int32) × Int32 → Option (Nat → Int32)) {q7 : Nat} (x4 : Int32) (x6 : Int32) (a7 : Nat → Int32) (x8 : Int32) (x9 : Int32) (x10 : Int32) (x12 : Int32) (x13 : Int32) (z0 : Int32) (z1 : Int32) (z2 : Int32) {σ : HS} (hk14 : ∀ (p : (Nat → Int32) × Int32 × Int32) (r : Nat → Int32), k14 p = some r → LR l cL_from 14 (some (.array .int)) (wsU yL_from cL_from 14 (some (.array .int))) rmL_from 0 0 ad [(q0, 44, a0), (q1, 45, a1), (q2, 64, a2), (q3, 64, a3)] (RetE cL_from (some (.array .int)) 1 (FA 20 σ r)) 14 [(0, .ref q0), (1, .ref q1), (2, .ref q2), (3, .ref q3), (4, .int x4), (6, .int x6), (7, .ref q7), (8, .int (p.2.1)), (9, .int (p.2.2))] [] σ [(q7, 20, p.1)] 1) (hk123 : ∀ (p : (Nat → Int32) × Int32) (r : Nat → Int32), k123 p = some r → LR l cL_from 14 (some (.array .int)) (wsU yL_from cL_from 14 (some (.array .int))) rmL_from 0 0 ad [(q0, 44, a0), (q1, 45, a1), (q2, 64, a2), (q3, 64, a3)] (RetE cL_from (some (.array .int)) 1 (FA 20 σ r)) 123 [(0, .ref q0), (1, .ref q1), (2, .ref q2), (3, .ref q3), (4, .int x4), (6, .int x6), (7, .ref q7), (8, .int x8), (9, .int x9), (10, .int x10), (12, .int x12), (13, .int (p.2))] [] σ [(q7, 20, p.1)] 1) (r : Nat → Int32) (h : g_from_159 a0 a1 a2 a3 k14 k123 x4 x6 a7 x8 x9 x10 x12 x13 z0 z1 z2 = some r) : LR l cL_from 14 (some (.array .int)) (wsU yL_from cL_from 14 (some (.array .int))) rmL_from 0 0 ad [(q0, 44, a0), (q1, 45, a1), (q2, 64, a2), (q3, 64, a3)] (RetE cL_from (some (.array .int)) 1 (FA 20 σ r)) 159 [(0, .ref q0), (1, .ref q1), (2, .ref q2), (3, .ref q3), (4, .int x4), (6, .int x6), (7, .ref q7), (8, .int x8), (9, .int x9), (10, .int x10), (12, .int x12), (13, .int x13)] [.int z0, .int z1, .int z2, .ref q7] σ [(q7, 20, a7)] 1 := by
  unfold g_from_159 at h
  refine LR.iadd (pc := 159) dL_from_159 ?_
  obtain ⟨c1, h⟩ := gn_some h
  obtain ⟨b2, e2, h⟩ := bd_some h
  replace e2 := Option.some.inj e2
  refine LR.iastore (pc := 160) (j := 0) (as2 := [(q7, 20, b2)]) dL_from_160 rfl c1 (by subst e2; rfl) ?_
  refine LR.iinc (pc := 161) (j := 11) (v := (x13 + 1)) (L2 := [(13, .int (x13 + 1)), (0, .ref q0), (1, .ref q1), (2, .ref q2), (3, .ref q3), (4, .int x4), (6, .int x6), (7, .ref q7), (8, .int x8), (9, .int x9), (10, .int x10), (12, .int x12)]) dL_from_161 rfl rfl (by decide) rfl ?_
  refine LR.goto (pc := 164) (tgt := 123) dL_from_164 (by decide) ?_
  exact LR.pick [1, 2, 3, 4, 5, 6, 7, 8, 9, 10, 11, 0] rfl (hk123 (b2, (x13 + 1)) r h)
set_option maxHeartbeats 4000000 in
set_option maxRecDepth 100000 in
theorem G_from_123_b {l : Launch} {ad : Nat → Nat} {q0 : Nat} {q1 : Nat} {q2 : Nat} {q3 : Nat} (a0 : Nat → Int32) (a1 : Nat → Int32) (a2 : Nat → Int32) (a3 : Nat → Int32) (k14 : (Nat → Int32) × Int32 × Int32 → Option (Nat → Int32)) (k123 : (Nat → Int32) × Int32 → Option (Nat → Int32)) {q7 : Nat} (x4 : Int32) (x6 : Int32) (a7 : Nat → Int32) (x8 : Int32) (x9 : Int32) (x10 : Int32) (x12 : Int32) (x13 : Int32) {σ : HS} (hk14 : ∀ (p : (Nat → Int32) × Int32 × Int32) (r : Nat → Int32), k14 p = some r → LR l cL_from 14 (some (.array .int)) (wsU yL_from cL_from 14 (some (.array .int))) rmL_from 0 0 ad [(q0, 44, a0), (q1, 45, a1), (q2, 64, a2), (q3, 64, a3)] (RetE cL_from (some (.array .int)) 1 (FA 20 σ r)) 14 [(0, .ref q0), (1, .ref q1), (2, .ref q2), (3, .ref q3), (4, .int x4), (6, .int x6), (7, .ref q7), (8, .int (p.2.1)), (9, .int (p.2.2))] [] σ [(q7, 20, p.1)] 1) (hk123 : ∀ (p : (Nat → Int32) × Int32) (r : Nat → Int32), k123 p = some r → LR l cL_from 14 (some (.array .int)) (wsU yL_from cL_from 14 (some (.array .int))) rmL_from 0 0 ad [(q0, 44, a0), (q1, 45, a1), (q2, 64, a2), (q3, 64, a3)] (RetE cL_from (some (.array .int)) 1 (FA 20 σ r)) 123 [(0, .ref q0), (1, .ref q1), (2, .ref q2), (3, .ref q3), (4, .int x4), (6, .int x6), (7, .ref q7), (8, .int x8), (9, .int x9), (10, .int x10), (12, .int x12), (13, .int (p.2))] [] σ [(q7, 20, p.1)] 1) (r : Nat → Int32) (h : g_from_123_b a0 a1 a2 a3 k14 k123 x4 x6 a7 x8 x9 x10 x12 x13 = some r) : LR l cL_from 14 (some (.array .int)) (wsU yL_from cL_from 14 (some (.array .int))) rmL_from 0 0 ad [(q0, 44, a0), (q1, 45, a1), (q2, 64, a2), (q3, 64, a3)] (RetE cL_from (some (.array .int)) 1 (FA 20 σ r)) 123 [(0, .ref q0), (1, .ref q1), (2, .ref q2), (3, .ref q3), (4, .int x4), (6, .int x6), (7, .ref q7), (8, .int x8), (9, .int x9), (10, .int x10), (12, .int x12), (13, .int x13)] [] σ [(q7, 20, a7)] 1 := by
  unfold g_from_123_b at h
  refine LR.iload (pc := 123) (j := 11) dL_from_123 rfl ?_
  refine LR.aload_n (pc := 125) (j := 0) dL_from_125 rfl rfl ?_
  refine LR.iconst (pc := 126) (v := 0) dL_from_126 (by decide) ?_
  refine LR.ialoadR (pc := 127) (j := 0) dL_from_127 rfl (by decide) ?_
  refine LR.icmp_ge (pc := 128) (tgt := 167) dL_from_128 (by decide) (fun c1 => ?_) (fun c1 => ?_)
  · replace h := ite_t c1 h
    exact LR.pick [0, 1, 2, 3, 4, 5, 6, 7, 8] rfl (G_from_167 a0 a1 a2 a3 k14 x4 x6 a7 x8 x9 hk14 r h)
  · replace h := ite_f c1 h
    refine LR.aload (pc := 131) (j := 6) dL_from_131 rfl ?_
    refine LR.iload (pc := 133) (j := 11) dL_from_133 rfl ?_
    refine LR.dup2 (pc := 135) dL_from_135 rfl rfl ?_
    obtain ⟨c2, h⟩ := gn_some h
    refine LR.iaload (pc := 136) (j := 0) dL_from_136 rfl c2 ?_
    refine LR.iload (pc := 137) (j := 11) dL_from_137 rfl ?_
    refine LR.iload (pc := 139) (j := 9) dL_from_139 rfl ?_
    refine LR.icmp_ne (pc := 141) (tgt := 153) dL_from_141 (by decide) (fun c3 => ?_) (fun c3 => ?_)
    · replace h := ite_f c3 h
      refine LR.aload_n (pc := 153) (j := 1) dL_from_153 rfl rfl ?_
      refine LR.iload (pc := 154) (j := 10) dL_from_154 rfl ?_
      refine LR.iconst (pc := 156) (v := 2) dL_from_156 (by decide) ?_
      refine LR.iadd (pc := 157) dL_from_157 ?_
      obtain ⟨c4, h⟩ := gn_some h
      refine LR.ialoadR (pc := 158) (j := 1) dL_from_158 rfl c4 ?_
      exact LR.pick [0, 1, 2, 3, 4, 5, 6, 7, 8, 9, 10, 11] rfl (G_from_159 a0 a1 a2 a3 k14 k123 x4 x6 a7 x8 x9 x10 x12 x13 (a1 ((x12 + 2) : Int32).toNatClampNeg) (a7 (x13 : Int32).toNatClampNeg) x13 hk14 hk123 r h)
    · replace h := ite_t c3 h
      refine LR.aload_n (pc := 144) (j := 1) dL_from_144 rfl rfl ?_
      refine LR.iload (pc := 145) (j := 10) dL_from_145 rfl ?_
      refine LR.iconst (pc := 147) (v := 1) dL_from_147 (by decide) ?_
      refine LR.iadd (pc := 148) dL_from_148 ?_
      obtain ⟨c5, h⟩ := gn_some h
      refine LR.ialoadR (pc := 149) (j := 1) dL_from_149 rfl c5 ?_
      refine LR.goto (pc := 150) (tgt := 159) dL_from_150 (by decide) ?_
      exact LR.pick [0, 1, 2, 3, 4, 5, 6, 7, 8, 9, 10, 11] rfl (G_from_159 a0 a1 a2 a3 k14 k123 x4 x6 a7 x8 x9 x10 x12 x13 (a1 ((x12 + 1) : Int32).toNatClampNeg) (a7 (x13 : Int32).toNatClampNeg) x13 hk14 hk123 r h)
theorem G_from_123 {l : Launch} {ad : Nat → Nat} {q0 : Nat} {q1 : Nat} {q2 : Nat} {q3 : Nat} (a0 : Nat → Int32) (a1 : Nat → Int32) (a2 : Nat → Int32) (a3 : Nat → Int32) (k14 : (Nat → Int32) × Int32 × Int32 → Option (Nat → Int32)) {q7 : Nat} (x4 : Int32) (x6 : Int32) (x8 : Int32) (x9 : Int32) (x10 : Int32) (x12 : Int32) {σ : HS} (hk14 : ∀ (p : (Nat → Int32) × Int32 × Int32) (r : Nat → Int32), k14 p = some r → LR l cL_from 14 (some (.array .int)) (wsU yL_from cL_from 14 (some (.array .int))) rmL_from 0 0 ad [(q0, 44, a0), (q1, 45, a1), (q2, 64, a2), (q3, 64, a3)] (RetE cL_from (some (.array .int)) 1 (FA 20 σ r)) 14 [(0, .ref q0), (1, .ref q1), (2, .ref q2), (3, .ref q3), (4, .int x4), (6, .int x6), (7, .ref q7), (8, .int (p.2.1)), (9, .int (p.2.2))] [] σ [(q7, 20, p.1)] 1) (p : (Nat → Int32) × Int32) (r : Nat → Int32) (h : g_from_123 a0 a1 a2 a3 k14 x4 x6 x8 x9 x10 x12 p = some r) : LR l cL_from 14 (some (.array .int)) (wsU yL_from cL_from 14 (some (.array .int))) rmL_from 0 0 ad [(q0, 44, a0), (q1, 45, a1), (q2, 64, a2), (q3, 64, a3)] (RetE cL_from (some (.array .int)) 1 (FA 20 σ r)) 123 [(0, .ref q0), (1, .ref q1), (2, .ref q2), (3, .ref q3), (4, .int x4), (6, .int x6), (7, .ref q7), (8, .int x8), (9, .int x9), (10, .int x10), (12, .int x12), (13, .int (p.2))] [] σ [(q7, 20, p.1)] 1 := by
  unfold g_from_123 at h
  exact wloop_run (body := fun k123 p => g_from_123_b a0 a1 a2 a3 k14 k123 x4 x6 p.1 x8 x9 x10 x12 p.2) (Q := (fun p r => LR l cL_from 14 (some (.array .int)) (wsU yL_from cL_from 14 (some (.array .int))) rmL_from 0 0 ad [(q0, 44, a0), (q1, 45, a1), (q2, 64, a2), (q3, 64, a3)] (RetE cL_from (some (.array .int)) 1 (FA 20 σ r)) 123 [(0, .ref q0), (1, .ref q1), (2, .ref q2), (3, .ref q3), (4, .int x4), (6, .int x6), (7, .ref q7), (8, .int x8), (9, .int x9), (10, .int x10), (12, .int x12), (13, .int (p.2))] [] σ [(q7, 20, p.1)] 1)) (fun k123 hk123 p r h => G_from_123_b a0 a1 a2 a3 k14 k123 x4 x6 p.1 x8 x9 x10 x12 p.2 hk14 hk123 r h) fuelN p r h
set_option maxHeartbeats 4000000 in
set_option maxRecDepth 100000 in
theorem G_from_106 {l : Launch} {ad : Nat → Nat} {q0 : Nat} {q1 : Nat} {q2 : Nat} {q3 : Nat} (a0 : Nat → Int32) (a1 : Nat → Int32) (a2 : Nat → Int32) (a3 : Nat → Int32) (k14 : (Nat → Int32) × Int32 × Int32 → Option (Nat → Int32)) {q7 : Nat} (x4 : Int32) (x6 : Int32) (a7 : Nat → Int32) (x8 : Int32) (x9 : Int32) (x10 : Int32) (x11 : Int32) (x12 : Int32) {σ : HS} (hk14 : ∀ (p : (Nat → Int32) × Int32 × Int32) (r : Nat → Int32), k14 p = some r → LR l cL_from 14 (some (.array .int)) (wsU yL_from cL_from 14 (some (.array .int))) rmL_from 0 0 ad [(q0, 44, a0), (q1, 45, a1), (q2, 64, a2), (q3, 64, a3)] (RetE cL_from (some (.array .int)) 1 (FA 20 σ r)) 14 [(0, .ref q0), (1, .ref q1), (2, .ref q2), (3, .ref q3), (4, .int x4), (6, .int x6), (7, .ref q7), (8, .int (p.2.1)), (9, .int (p.2.2))] [] σ [(q7, 20, p.1)] 1) (r : Nat → Int32) (h : g_from_106 a0 a1 a2 a3 k14 x4 x6 a7 x8 x9 x10 x11 x12 = some r) : LR l cL_from 14 (some (.array .int)) (wsU yL_from cL_from 14 (some (.array .int))) rmL_from 0 0 ad [(q0, 44, a0), (q1, 45, a1), (q2, 64, a2), (q3, 64, a3)] (RetE cL_from (some (.array .int)) 1 (FA 20 σ r)) 106 [(0, .ref q0), (1, .ref q1), (2, .ref q2), (3, .ref q3), (4, .int x4), (6, .int x6), (7, .ref q7), (8, .int x8), (9, .int x9), (10, .int x10), (11, .int x11), (12, .int x12)] [] σ [(q7, 20, a7)] 1 := by
  unfold g_from_106 at h
  refine LR.iload (pc := 106) (j := 10) dL_from_106 rfl ?_
  refine LR.if_lt (pc := 108) (tgt := 167) dL_from_108 (by decide) (fun c1 => ?_) (fun c1 => ?_)
  · replace h := ite_t c1 h
    exact LR.pick [0, 1, 2, 3, 4, 5, 6, 7, 8] rfl (G_from_167 a0 a1 a2 a3 k14 x4 x6 a7 x8 x9 hk14 r h)
  · replace h := ite_f c1 h
    refine LR.iload (pc := 111) (j := 7) dL_from_111 rfl ?_
    refine LR.aload_n (pc := 113) (j := 1) dL_from_113 rfl rfl ?_
    refine LR.iload (pc := 114) (j := 11) dL_from_114 rfl ?_
    obtain ⟨c2, h⟩ := gn_some h
    refine LR.ialoadR (pc := 116) (j := 1) dL_from_116 rfl c2 ?_
    refine LR.isub (pc := 117) dL_from_117 ?_
    refine LR.istore (pc := 118) (L2 := [(8, .int (x8 - (a1 (x12 : Int32).toNatClampNeg))), (0, .ref q0), (1, .ref q1), (2, .ref q2), (3, .ref q3), (4, .int x4), (6, .int x6), (7, .ref q7), (9, .int x9), (10, .int x10), (11, .int x11), (12, .int x12)]) dL_from_118 (by decide) rfl ?_
    refine LR.iconst (pc := 120) (v := 0) dL_from_120 (by decide) ?_
    refine LR.istore (pc := 121) (L2 := [(13, .int 0), (8, .int (x8 - (a1 (x12 : Int32).toNatClampNeg))), (0, .ref q0), (1, .ref q1), (2, .ref q2), (3, .ref q3), (4, .int x4), (6, .int x6), (7, .ref q7), (9, .int x9), (10, .int x10), (11, .int x11), (12, .int x12)]) dL_from_121 (by decide) rfl ?_
    exact LR.pick [2, 3, 4, 5, 6, 7, 8, 1, 9, 10, 12, 0] rfl (G_from_123 a0 a1 a2 a3 k14 x4 x6 (x8 - (a1 (x12 : Int32).toNatClampNeg)) x9 x10 x12 hk14 (a7, 0) r h)
set_option maxHeartbeats 4000000 in
set_option maxRecDepth 100000 in
theorem G_from_52 {l : Launch} {ad : Nat → Nat} {q0 : Nat} {q1 : Nat} {q2 : Nat} {q3 : Nat} (a0 : Nat → Int32) (a1 : Nat → Int32) (a2 : Nat → Int32) (a3 : Nat → Int32) (k14 : (Nat → Int32) × Int32 × Int32 → Option (Nat → Int32)) {q7 : Nat} (x4 : Int32) (x6 : Int32) (a7 : Nat → Int32) (x8 : Int32) (x9 : Int32) (x10 : Int32) (z0 : Int32) {σ : HS} (hk14 : ∀ (p : (Nat → Int32) × Int32 × Int32) (r : Nat → Int32), k14 p = some r → LR l cL_from 14 (some (.array .int)) (wsU yL_from cL_from 14 (some (.array .int))) rmL_from 0 0 ad [(q0, 44, a0), (q1, 45, a1), (q2, 64, a2), (q3, 64, a3)] (RetE cL_from (some (.array .int)) 1 (FA 20 σ r)) 14 [(0, .ref q0), (1, .ref q1), (2, .ref q2), (3, .ref q3), (4, .int x4), (6, .int x6), (7, .ref q7), (8, .int (p.2.1)), (9, .int (p.2.2))] [] σ [(q7, 20, p.1)] 1) (r : Nat → Int32) (h : g_from_52 a0 a1 a2 a3 k14 x4 x6 a7 x8 x9 x10 z0 = some r) : LR l cL_from 14 (some (.array .int)) (wsU yL_from cL_from 14 (some (.array .int))) rmL_from 0 0 ad [(q0, 44, a0), (q1, 45, a1), (q2, 64, a2), (q3, 64, a3)] (RetE cL_from (some (.array .int)) 1 (FA 20 σ r)) 52 [(0, .ref q0), (1, .ref q1), (2, .ref q2), (3, .ref q3), (4, .int x4), (6, .int x6), (7, .ref q7), (8, .int x8), (9, .int x9), (10, .int x10)] [.int z0] σ [(q7, 20, a7)] 1 := by
  unfold g_from_52 at h
  refine LR.istore (pc := 52) (L2 := [(11, .int z0), (0, .ref q0), (1, .ref q1), (2, .ref q2), (3, .ref q3), (4, .int x4), (6, .int x6), (7, .ref q7), (8, .int x8), (9, .int x9), (10, .int x10)]) dL_from_52 (by decide) rfl ?_
  refine LR.bipush (pc := 54) (v := 9) dL_from_54 (by decide) ?_
  refine LR.iload (pc := 56) (j := 10) dL_from_56 rfl ?_
  refine LR.imul (pc := 58) dL_from_58 ?_
  refine LR.iconst (pc := 59) (v := 3) dL_from_59 (by decide) ?_
  refine LR.iload (pc := 60) (j := 0) dL_from_60 rfl ?_
  refine LR.imul (pc := 62) dL_from_62 ?_
  refine LR.iadd (pc := 63) dL_from_63 ?_
  refine LR.istore (pc := 64) (L2 := [(12, .int ((9 * x10) + (3 * z0))), (11, .int z0), (0, .ref q0), (1, .ref q1), (2, .ref q2), (3, .ref q3), (4, .int x4), (6, .int x6), (7, .ref q7), (8, .int x8), (9, .int x9), (10, .int x10)]) dL_from_64 (by decide) rfl ?_
  refine LR.aload (pc := 66) (j := 8) dL_from_66 rfl ?_
  refine LR.bipush (pc := 68) (v := 6) dL_from_68 (by decide) ?_
  refine LR.iload (pc := 70) (j := 10) dL_from_70 rfl ?_
  refine LR.iadd (pc := 72) dL_from_72 ?_
  refine LR.iload (pc := 73) (j := 1) dL_from_73 rfl ?_
  obtain ⟨c1, h⟩ := gn_some h
  obtain ⟨b2, e2, h⟩ := bd_some h
  replace e2 := Option.some.inj e2
  refine LR.iastore (pc := 75) (j := 0) (as2 := [(q7, 20, b2)]) dL_from_75 rfl c1 (by subst e2; rfl) ?_
  refine LR.aload (pc := 76) (j := 8) dL_from_76 rfl ?_
  refine LR.bipush (pc := 78) (v := 12) dL_from_78 (by decide) ?_
  refine LR.iload (pc := 80) (j := 10) dL_from_80 rfl ?_
  refine LR.iadd (pc := 82) dL_from_82 ?_
  refine LR.iload (pc := 83) (j := 9) dL_from_83 rfl ?_
  obtain ⟨c3, h⟩ := gn_some h
  obtain ⟨b4, e4, h⟩ := bd_some h
  replace e4 := Option.some.inj e4
  refine LR.iastore (pc := 85) (j := 0) (as2 := [(q7, 20, b4)]) dL_from_85 rfl c3 (by subst e4; rfl) ?_
  refine LR.iload (pc := 86) (j := 1) dL_from_86 rfl ?_
  refine LR.if_lt (pc := 88) (tgt := 106) dL_from_88 (by decide) (fun c5 => ?_) (fun c5 => ?_)
  · replace h := ite_t c5 h
    exact LR.pick [2, 3, 4, 5, 6, 7, 8, 9, 10, 11, 1, 0] rfl (G_from_106 a0 a1 a2 a3 k14 x4 x6 b4 x8 x9 x10 z0 ((9 * x10) + (3 * z0)) hk14 r h)
  · replace h := ite_f c5 h
    refine LR.aload_n (pc := 91) (j := 3) dL_from_91 rfl rfl ?_
    refine LR.iload (pc := 92) (j := 0) dL_from_92 rfl ?_
    obtain ⟨c6, h⟩ := gn_some h
    refine LR.ialoadR (pc := 94) (j := 1) dL_from_94 rfl c6 ?_
    refine LR.iload (pc := 95) (j := 9) dL_from_95 rfl ?_
    refine LR.icmp_le (pc := 97) (tgt := 106) dL_from_97 (by decide) (fun c7 => ?_) (fun c7 => ?_)
    · replace h := ite_t c7 h
      exact LR.pick [2, 3, 4, 5, 6, 7, 8, 9, 10, 11, 1, 0] rfl (G_from_106 a0 a1 a2 a3 k14 x4 x6 b4 x8 x9 x10 z0 ((9 * x10) + (3 * z0)) hk14 r h)
    · replace h := ite_f c7 h
      refine LR.iconst (pc := 100) (v := 0) dL_from_100 (by decide) ?_
      refine LR.istore (pc := 101) (L2 := [(8, .int 0), (12, .int ((9 * x10) + (3 * z0))), (11, .int z0), (0, .ref q0), (1, .ref q1), (2, .ref q2), (3, .ref q3), (4, .int x4), (6, .int x6), (7, .ref q7), (9, .int x9), (10, .int x10)]) dL_from_101 (by decide) rfl ?_
      refine LR.goto (pc := 103) (tgt := 167) dL_from_103 (by decide) ?_
      exact LR.pick [3, 4, 5, 6, 7, 8, 9, 0, 10] rfl (G_from_167 a0 a1 a2 a3 k14 x4 x6 b4 0 x9 hk14 r h)
set_option maxHeartbeats 4000000 in
set_option maxRecDepth 100000 in
theorem G_from_14_b {l : Launch} {ad : Nat → Nat} {q0 : Nat} {q1 : Nat} {q2 : Nat} {q3 : Nat} (a0 : Nat → Int32) (a1 : Nat → Int32) (a2 : Nat → Int32) (a3 : Nat → Int32) (k14 : (Nat → Int32) × Int32 × Int32 → Option (Nat → Int32)) {q7 : Nat} (x4 : Int32) (x6 : Int32) (a7 : Nat → Int32) (x8 : Int32) (x9 : Int32) {σ : HS} (hk14 : ∀ (p : (Nat → Int32) × Int32 × Int32) (r : Nat → Int32), k14 p = some r → LR l cL_from 14 (some (.array .int)) (wsU yL_from cL_from 14 (some (.array .int))) rmL_from 0 0 ad [(q0, 44, a0), (q1, 45, a1), (q2, 64, a2), (q3, 64, a3)] (RetE cL_from (some (.array .int)) 1 (FA 20 σ r)) 14 [(0, .ref q0), (1, .ref q1), (2, .ref q2), (3, .ref q3), (4, .int x4), (6, .int x6), (7, .ref q7), (8, .int (p.2.1)), (9, .int (p.2.2))] [] σ [(q7, 20, p.1)] 1) (r : Nat → Int32) (h : g_from_14_b a0 a1 a2 a3 k14 x4 x6 a7 x8 x9 = some r) : LR l cL_from 14 (some (.array .int)) (wsU yL_from cL_from 14 (some (.array .int))) rmL_from 0 0 ad [(q0, 44, a0), (q1, 45, a1), (q2, 64, a2), (q3, 64, a3)] (RetE cL_from (some (.array .int)) 1 (FA 20 σ r)) 14 [(0, .ref q0), (1, .ref q1), (2, .ref q2), (3, .ref q3), (4, .int x4), (6, .int x6), (7, .ref q7), (8, .int x8), (9, .int x9)] [] σ [(q7, 20, a7)] 1 := by
  unfold g_from_14_b at h
  refine LR.iload (pc := 14) (j := 8) dL_from_14 rfl ?_
  refine LR.aload_n (pc := 16) (j := 0) dL_from_16 rfl rfl ?_
  obtain ⟨r1, h1, h⟩ := bd_some h
  refine LR.callS0 (pc := 17) (As := [.ref q0]) (st := [.int x9]) (as2 := []) (asR := [(q7, 20, a7)]) (ro2 := [(q0, 44, a0)]) (mg := 0) (FIN := (FI σ r1)) [] [0] dL_from_17 ⟨cd_L_turns, sm_L_turns, ini_L⟩ ml_L_36 (G_turns a0 r1 h1) ⟨rfl, pd_L_turns⟩ ⟨Nat.le_of_ble_eq_true rfl, Nat.le_of_ble_eq_true rfl⟩ ⟨rfl, rfl⟩ rfl rfl rfl rfl rfl (by decide) (Or.inl ⟨[0], rfl⟩) rfl (Nat.le_of_ble_eq_true rfl) (fun v9 σ9 as9 hF9 => ?_)
  obtain ⟨rfl, e9, rfl⟩ := hF9; replace e9 := e9.symm; subst e9
  show LR l cL_from 14 (some (.array .int)) (wsU yL_from cL_from 14 (some (.array .int))) rmL_from 0 0 ad [(q0, 44, a0), (q1, 45, a1), (q2, 64, a2), (q3, 64, a3)] (RetE cL_from (some (.array .int)) 1 (FA 20 σ r)) 20 [(0, .ref q0), (1, .ref q1), (2, .ref q2), (3, .ref q3), (4, .int x4), (6, .int x6), (7, .ref q7), (8, .int x8), (9, .int x9)] [.int r1, .int x9] σ [(q7, 20, a7)] 1
  refine LR.icmp_ge (pc := 20) (tgt := 184) dL_from_20 (by decide) (fun c2 => ?_) (fun c2 => ?_)
  · replace h := ite_t c2 h
    refine LR.aload (pc := 184) (j := 6) dL_from_184 rfl ?_
    refine LR.iconst (pc := 186) (v := 5) dL_from_186 (by decide) ?_
    refine LR.iload (pc := 187) (j := 7) dL_from_187 rfl ?_
    obtain ⟨b3, e3, h⟩ := bd_some h
    replace e3 := Option.some.inj e3
    refine LR.iastore (pc := 189) (j := 0) (as2 := [(q7, 20, b3)]) dL_from_189 rfl (by decide) (by subst e3; rfl) ?_
    refine LR.aload (pc := 190) (j := 6) dL_from_190 rfl ?_
    refine LR.sub (as2 := [(q7, 20, b3)]) [0] rfl rfl ?_
    exact LR.fin ⟨Nat.le_of_ble_eq_true rfl, Or.inr ⟨_, rfl, dL_from_192, rfl, ⟨_, rfl, rfl, by rw [Option.some.inj h]⟩⟩⟩
  · replace h := ite_f c2 h
    refine LR.aload_n (pc := 23) (j := 0) dL_from_23 rfl rfl ?_
    refine LR.iload (pc := 24) (j := 8) dL_from_24 rfl ?_
    obtain ⟨r4, h4, h⟩ := bd_some h
    refine LR.callS0 (pc := 26) (As := [.ref q0, .int x9]) (st := []) (as2 := []) (asR := [(q7, 20, a7)]) (ro2 := [(q0, 44, a0)]) (mg := 0) (FIN := (FI σ r4)) [] [0] dL_from_26 ⟨cd_L_who, sm_L_who, ini_L⟩ ml_L_33 (G_who a0 x9 r4 h4) ⟨rfl, pd_L_who⟩ ⟨Nat.le_of_ble_eq_true rfl, Nat.le_of_ble_eq_true rfl⟩ ⟨rfl, rfl⟩ rfl rfl rfl rfl rfl (by decide) (Or.inl ⟨[0], rfl⟩) rfl (Nat.le_of_ble_eq_true rfl) (fun v9 σ9 as9 hF9 => ?_)
    obtain ⟨rfl, e9, rfl⟩ := hF9; replace e9 := e9.symm; subst e9
    show LR l cL_from 14 (some (.array .int)) (wsU yL_from cL_from 14 (some (.array .int))) rmL_from 0 0 ad [(q0, 44, a0), (q1, 45, a1), (q2, 64, a2), (q3, 64, a3)] (RetE cL_from (some (.array .int)) 1 (FA 20 σ r)) 29 [(0, .ref q0), (1, .ref q1), (2, .ref q2), (3, .ref q3), (4, .int x4), (6, .int x6), (7, .ref q7), (8, .int x8), (9, .int x9)] [.int r4] σ [(q7, 20, a7)] 1
    refine LR.istore (pc := 29) (L2 := [(10, .int r4), (0, .ref q0), (1, .ref q1), (2, .ref q2), (3, .ref q3), (4, .int x4), (6, .int x6), (7, .ref q7), (8, .int x8), (9, .int x9)]) dL_from_29 (by decide) rfl ?_
    refine LR.iload (pc := 31) (j := 9) dL_from_31 rfl ?_
    refine LR.iload (pc := 33) (j := 5) dL_from_33 rfl ?_
    refine LR.icmp_ne (pc := 35) (tgt := 43) dL_from_35 (by decide) (fun c5 => ?_) (fun c5 => ?_)
    · replace h := ite_f c5 h
      refine LR.aload_n (pc := 43) (j := 3) dL_from_43 rfl rfl ?_
      refine LR.aload_n (pc := 44) (j := 4) dL_from_44 rfl rfl ?_
      refine LR.iload (pc := 45) (j := 9) dL_from_45 rfl ?_
      refine LR.iload (pc := 47) (j := 8) dL_from_47 rfl ?_
      obtain ⟨r6, h6, h⟩ := bd_some h
      refine LR.callS0 (pc := 49) (As := [.ref q2, .ref q3, .int x9, .int x8]) (st := []) (as2 := []) (asR := [(q7, 20, a7)]) (ro2 := [(q2, 64, a2), (q3, 64, a3)]) (mg := 0) (FIN := (FI σ r6)) [] [0] dL_from_49 ⟨cd_L_said, sm_L_said, ini_L⟩ ml_L_43 (G_said a2 a3 x9 x8 r6 h6) ⟨rfl, pd_L_said⟩ ⟨Nat.le_of_ble_eq_true rfl, Nat.le_of_ble_eq_true rfl⟩ ⟨rfl, rfl⟩ rfl rfl rfl rfl rfl (by decide) (Or.inl ⟨[2, 3], rfl⟩) rfl (Nat.le_of_ble_eq_true rfl) (fun v9 σ9 as9 hF9 => ?_)
      obtain ⟨rfl, e9, rfl⟩ := hF9; replace e9 := e9.symm; subst e9
      show LR l cL_from 14 (some (.array .int)) (wsU yL_from cL_from 14 (some (.array .int))) rmL_from 0 0 ad [(q0, 44, a0), (q1, 45, a1), (q2, 64, a2), (q3, 64, a3)] (RetE cL_from (some (.array .int)) 1 (FA 20 σ r)) 52 [(10, .int r4), (0, .ref q0), (1, .ref q1), (2, .ref q2), (3, .ref q3), (4, .int x4), (6, .int x6), (7, .ref q7), (8, .int x8), (9, .int x9)] [.int r6] σ [(q7, 20, a7)] 1
      exact LR.pick [1, 2, 3, 4, 5, 6, 7, 8, 9, 0] rfl (G_from_52 a0 a1 a2 a3 k14 x4 x6 a7 x8 x9 r4 r6 hk14 r h)
    · replace h := ite_t c5 h
      refine LR.iload (pc := 38) (j := 6) dL_from_38 rfl ?_
      refine LR.goto (pc := 40) (tgt := 52) dL_from_40 (by decide) ?_
      exact LR.pick [1, 2, 3, 4, 5, 6, 7, 8, 9, 0] rfl (G_from_52 a0 a1 a2 a3 k14 x4 x6 a7 x8 x9 r4 x6 hk14 r h)
theorem G_from_14 {l : Launch} {ad : Nat → Nat} {q0 : Nat} {q1 : Nat} {q2 : Nat} {q3 : Nat} (a0 : Nat → Int32) (a1 : Nat → Int32) (a2 : Nat → Int32) (a3 : Nat → Int32) {q7 : Nat} (x4 : Int32) (x6 : Int32) {σ : HS} (p : (Nat → Int32) × Int32 × Int32) (r : Nat → Int32) (h : g_from_14 a0 a1 a2 a3 x4 x6 p = some r) : LR l cL_from 14 (some (.array .int)) (wsU yL_from cL_from 14 (some (.array .int))) rmL_from 0 0 ad [(q0, 44, a0), (q1, 45, a1), (q2, 64, a2), (q3, 64, a3)] (RetE cL_from (some (.array .int)) 1 (FA 20 σ r)) 14 [(0, .ref q0), (1, .ref q1), (2, .ref q2), (3, .ref q3), (4, .int x4), (6, .int x6), (7, .ref q7), (8, .int (p.2.1)), (9, .int (p.2.2))] [] σ [(q7, 20, p.1)] 1 := by
  unfold g_from_14 at h
  exact wloop_run (body := fun k14 p => g_from_14_b a0 a1 a2 a3 k14 x4 x6 p.1 p.2.1 p.2.2) (Q := (fun p r => LR l cL_from 14 (some (.array .int)) (wsU yL_from cL_from 14 (some (.array .int))) rmL_from 0 0 ad [(q0, 44, a0), (q1, 45, a1), (q2, 64, a2), (q3, 64, a3)] (RetE cL_from (some (.array .int)) 1 (FA 20 σ r)) 14 [(0, .ref q0), (1, .ref q1), (2, .ref q2), (3, .ref q3), (4, .int x4), (6, .int x6), (7, .ref q7), (8, .int (p.2.1)), (9, .int (p.2.2))] [] σ [(q7, 20, p.1)] 1)) (fun k14 hk14 p r h => G_from_14_b a0 a1 a2 a3 k14 x4 x6 p.1 p.2.1 p.2.2 hk14 r h) fuelN p r h
set_option maxHeartbeats 4000000 in
set_option maxRecDepth 100000 in
theorem G_from {l : Launch} {ad : Nat → Nat} {q0 : Nat} {q1 : Nat} {q2 : Nat} {q3 : Nat} (a0 : Nat → Int32) (a1 : Nat → Int32) (a2 : Nat → Int32) (a3 : Nat → Int32) (x4 : Int32) (x5 : Int32) (x6 : Int32) {σ : HS} (r : Nat → Int32) (h : g_from a0 a1 a2 a3 x4 x5 x6 = some r) : LM l yL_from (wsU yL_from cL_from 14 (some (.array .int))) rmL_from 1 [.ref q0, .ref q1, .ref q2, .ref q3, .int x4, .int x5, .int x6] ad σ [] [(q0, 44, a0), (q1, 45, a1), (q2, 64, a2), (q3, 64, a3)] (FA 20 σ r) := by
  refine LM.of (L := [(0, .ref q0), (1, .ref q1), (2, .ref q2), (3, .ref q3), (4, .int x4), (5, .int x5), (6, .int x6)]) pn_L_from rfl (Nat.le_of_ble_eq_true rfl) rfl ?_
  unfold g_from at h
  refine LR.bipush (pc := 0) (v := 20) dL_from_0 (by decide) ?_
  refine LR.newa (pc := 2) (N := 20) dL_from_2 (by decide) (by decide) (by decide) ⟨Nat.le_of_ble_eq_true rfl, Nat.le_of_ble_eq_true rfl⟩ (fun qn1 => ?_)
  show LR l cL_from 14 (some (.array .int)) (wsU yL_from cL_from 14 (some (.array .int))) rmL_from 0 0 ad [(q0, 44, a0), (q1, 45, a1), (q2, 64, a2), (q3, 64, a3)] (RetE cL_from (some (.array .int)) 1 (FA 20 σ r)) 4 [(0, .ref q0), (1, .ref q1), (2, .ref q2), (3, .ref q3), (4, .int x4), (5, .int x5), (6, .int x6)] [.ref qn1] σ [(qn1, 20, (fun _ => 0))] 1
  refine LR.astore (pc := 4) (L2 := [(7, .ref qn1), (0, .ref q0), (1, .ref q1), (2, .ref q2), (3, .ref q3), (4, .int x4), (5, .int x5), (6, .int x6)]) dL_from_4 (by decide) rfl ?_
  refine LR.iload (pc := 6) (j := 6) dL_from_6 rfl ?_
  refine LR.istore (pc := 8) (L2 := [(8, .int x5), (7, .ref qn1), (0, .ref q0), (1, .ref q1), (2, .ref q2), (3, .ref q3), (4, .int x4), (5, .int x5), (6, .int x6)]) dL_from_8 (by decide) rfl ?_
  refine LR.iload (pc := 10) (j := 6) dL_from_10 rfl ?_
  refine LR.istore (pc := 12) (L2 := [(9, .int x4), (8, .int x5), (7, .ref qn1), (0, .ref q0), (1, .ref q1), (2, .ref q2), (3, .ref q3), (4, .int x4), (5, .int x5), (6, .int x6)]) dL_from_12 (by decide) rfl ?_
  exact LR.pick [3, 4, 5, 6, 7, 9, 2, 1, 0] rfl (G_from_14 a0 a1 a2 a3 x4 x6 ((fun _ => 0), x5, x4) r h)
noncomputable def g_free (a0 : Nat → Int32) (a1 : Nat → Int32) (a2 : Nat → Int32) (a3 : Nat → Int32) : Option (Nat → Int32) :=
  bd (g_start a0) fun r1 =>
  bd (g_start a0) fun r2 =>
  bd (g_said a2 a3 0 r2) fun r3 =>
  bd (g_from a0 a1 a2 a3 0 r1 r3) fun r4 =>
  some r4
set_option maxHeartbeats 4000000 in
set_option maxRecDepth 100000 in
theorem G_free {l : Launch} {ad : Nat → Nat} {q0 : Nat} {q1 : Nat} {q2 : Nat} {q3 : Nat} (a0 : Nat → Int32) (a1 : Nat → Int32) (a2 : Nat → Int32) (a3 : Nat → Int32) {σ : HS} (r : Nat → Int32) (h : g_free a0 a1 a2 a3 = some r) : LM l yL_free (wsU yL_free cL_free 4 (some (.array .int))) rmL_free 1 [.ref q0, .ref q1, .ref q2, .ref q3] ad σ [] [(q0, 44, a0), (q1, 45, a1), (q2, 64, a2), (q3, 64, a3)] (FA 20 σ r) := by
  refine LM.of (L := [(0, .ref q0), (1, .ref q1), (2, .ref q2), (3, .ref q3)]) pn_L_free rfl (Nat.le_of_ble_eq_true rfl) rfl ?_
  unfold g_free at h
  refine LR.aload_n (pc := 0) (j := 0) dL_free_0 rfl rfl ?_
  refine LR.aload_n (pc := 1) (j := 1) dL_free_1 rfl rfl ?_
  refine LR.aload_n (pc := 2) (j := 2) dL_free_2 rfl rfl ?_
  refine LR.aload_n (pc := 3) (j := 3) dL_free_3 rfl rfl ?_
  refine LR.iconst (pc := 4) (v := 0) dL_free_4 (by decide) ?_
  refine LR.aload_n (pc := 5) (j := 0) dL_free_5 rfl rfl ?_
  obtain ⟨r1, h1, h⟩ := bd_some h
  refine LR.callS0 (pc := 6) (As := [.ref q0]) (st := [.int 0, .ref q3, .ref q2, .ref q1, .ref q0]) (as2 := []) (asR := []) (ro2 := [(q0, 44, a0)]) (mg := 0) (FIN := (FI σ r1)) [] [] dL_free_6 ⟨cd_L_start, sm_L_start, ini_L⟩ ml_L_47 (G_start a0 r1 h1) ⟨rfl, pd_L_start⟩ ⟨Nat.le_of_ble_eq_true rfl, Nat.le_of_ble_eq_true rfl⟩ ⟨rfl, rfl⟩ rfl rfl rfl rfl rfl (by decide) (Or.inl ⟨[0], rfl⟩) rfl (Nat.le_of_ble_eq_true rfl) (fun v9 σ9 as9 hF9 => ?_)
  obtain ⟨rfl, e9, rfl⟩ := hF9; replace e9 := e9.symm; subst e9
  show LR l cL_free 4 (some (.array .int)) (wsU yL_free cL_free 4 (some (.array .int))) rmL_free 0 0 ad [(q0, 44, a0), (q1, 45, a1), (q2, 64, a2), (q3, 64, a3)] (RetE cL_free (some (.array .int)) 1 (FA 20 σ r)) 9 [(0, .ref q0), (1, .ref q1), (2, .ref q2), (3, .ref q3)] [.int r1, .int 0, .ref q3, .ref q2, .ref q1, .ref q0] σ [] 0
  refine LR.aload_n (pc := 9) (j := 2) dL_free_9 rfl rfl ?_
  refine LR.aload_n (pc := 10) (j := 3) dL_free_10 rfl rfl ?_
  refine LR.iconst (pc := 11) (v := 0) dL_free_11 (by decide) ?_
  refine LR.aload_n (pc := 12) (j := 0) dL_free_12 rfl rfl ?_
  obtain ⟨r2, h2, h⟩ := bd_some h
  refine LR.callS0 (pc := 13) (As := [.ref q0]) (st := [.int 0, .ref q3, .ref q2, .int r1, .int 0, .ref q3, .ref q2, .ref q1, .ref q0]) (as2 := []) (asR := []) (ro2 := [(q0, 44, a0)]) (mg := 0) (FIN := (FI σ r2)) [] [] dL_free_13 ⟨cd_L_start, sm_L_start, ini_L⟩ ml_L_47 (G_start a0 r2 h2) ⟨rfl, pd_L_start⟩ ⟨Nat.le_of_ble_eq_true rfl, Nat.le_of_ble_eq_true rfl⟩ ⟨rfl, rfl⟩ rfl rfl rfl rfl rfl (by decide) (Or.inl ⟨[0], rfl⟩) rfl (Nat.le_of_ble_eq_true rfl) (fun v9 σ9 as9 hF9 => ?_)
  obtain ⟨rfl, e9, rfl⟩ := hF9; replace e9 := e9.symm; subst e9
  show LR l cL_free 4 (some (.array .int)) (wsU yL_free cL_free 4 (some (.array .int))) rmL_free 0 0 ad [(q0, 44, a0), (q1, 45, a1), (q2, 64, a2), (q3, 64, a3)] (RetE cL_free (some (.array .int)) 1 (FA 20 σ r)) 16 [(0, .ref q0), (1, .ref q1), (2, .ref q2), (3, .ref q3)] [.int r2, .int 0, .ref q3, .ref q2, .int r1, .int 0, .ref q3, .ref q2, .ref q1, .ref q0] σ [] 0
  obtain ⟨r3, h3, h⟩ := bd_some h
  refine LR.callS0 (pc := 16) (As := [.ref q2, .ref q3, .int 0, .int r2]) (st := [.int r1, .int 0, .ref q3, .ref q2, .ref q1, .ref q0]) (as2 := []) (asR := []) (ro2 := [(q2, 64, a2), (q3, 64, a3)]) (mg := 0) (FIN := (FI σ r3)) [] [] dL_free_16 ⟨cd_L_said, sm_L_said, ini_L⟩ ml_L_43 (G_said a2 a3 0 r2 r3 h3) ⟨rfl, pd_L_said⟩ ⟨Nat.le_of_ble_eq_true rfl, Nat.le_of_ble_eq_true rfl⟩ ⟨rfl, rfl⟩ rfl rfl rfl rfl rfl (by decide) (Or.inl ⟨[2, 3], rfl⟩) rfl (Nat.le_of_ble_eq_true rfl) (fun v9 σ9 as9 hF9 => ?_)
  obtain ⟨rfl, e9, rfl⟩ := hF9; replace e9 := e9.symm; subst e9
  show LR l cL_free 4 (some (.array .int)) (wsU yL_free cL_free 4 (some (.array .int))) rmL_free 0 0 ad [(q0, 44, a0), (q1, 45, a1), (q2, 64, a2), (q3, 64, a3)] (RetE cL_free (some (.array .int)) 1 (FA 20 σ r)) 19 [(0, .ref q0), (1, .ref q1), (2, .ref q2), (3, .ref q3)] [.int r3, .int r1, .int 0, .ref q3, .ref q2, .ref q1, .ref q0] σ [] 0
  obtain ⟨r4, h4, h⟩ := bd_some h
  refine LR.callS (pc := 19) (As := [.ref q0, .ref q1, .ref q2, .ref q3, .int 0, .int r1, .int r3]) (st := []) (as2 := []) (asR := []) (ro2 := [(q0, 44, a0), (q1, 45, a1), (q2, 64, a2), (q3, 64, a3)]) (mg := 1) (FIN := (FA 20 σ r4)) [] [] dL_free_19 ⟨cd_L_from, sm_L_from, ini_L⟩ ml_L_50 (G_from a0 a1 a2 a3 0 r1 r3 r4 h4) ⟨rfl, pd_L_from⟩ ⟨Nat.le_of_ble_eq_true rfl, Nat.le_of_ble_eq_true rfl⟩ ⟨rfl, rfl⟩ ⟨Nat.le_of_ble_eq_true rfl, Nat.le_of_ble_eq_true rfl⟩ rfl rfl rfl rfl (by decide) (Or.inl ⟨[0, 1, 2, 3], rfl⟩) rfl (Nat.le_of_ble_eq_true rfl) (fun v9 σ9 as9 hF9 => ?_)
  obtain ⟨qn4, rfl, e9, rfl⟩ := hF9; replace e9 := e9.symm; subst e9
  show LR l cL_free 4 (some (.array .int)) (wsU yL_free cL_free 4 (some (.array .int))) rmL_free 0 0 ad [(q0, 44, a0), (q1, 45, a1), (q2, 64, a2), (q3, 64, a3)] (RetE cL_free (some (.array .int)) 1 (FA 20 σ r)) 22 [(0, .ref q0), (1, .ref q1), (2, .ref q2), (3, .ref q3)] [.ref qn4] σ [(qn4, 20, r4)] 1
  refine LR.sub (as2 := [(qn4, 20, r4)]) [0] rfl rfl ?_
  exact LR.fin ⟨Nat.le_of_ble_eq_true rfl, Or.inr ⟨_, rfl, dL_free_22, rfl, ⟨_, rfl, rfl, by rw [Option.some.inj h]⟩⟩⟩
noncomputable def g_but_158 (a0 : Nat → Int32) (a1 : Nat → Int32) (a2 : Nat → Int32) (a3 : Nat → Int32) (k15 : (Nat → Int32) × Int32 × Int32 → Option (Nat → Int32)) (x4 : Int32) (x5 : Int32) (a6 : Nat → Int32) (x7 : Int32) (x8 : Int32) : Option (Nat → Int32) :=
  bd (g_ahead a0 x7 (a0 (2 : Int32).toNatClampNeg)) fun r1 =>
  k15 (a6, r1, (x8 + 1))
noncomputable def g_but_150 (a0 : Nat → Int32) (a1 : Nat → Int32) (a2 : Nat → Int32) (a3 : Nat → Int32) (k15 : (Nat → Int32) × Int32 × Int32 → Option (Nat → Int32)) (k114 : (Nat → Int32) × Int32 → Option (Nat → Int32)) (x4 : Int32) (x5 : Int32) (a6 : Nat → Int32) (x7 : Int32) (x8 : Int32) (x9 : Int32) (x11 : Int32) (x12 : Int32) (z0 : Int32) (z1 : Int32) (z2 : Int32) : Option (Nat → Int32) :=
  if (z2 : Int32) < 0 ∨ 20 ≤ (z2 : Int32).toNatClampNeg then none else
  bd (some (upd a6 (z2 : Int32).toNatClampNeg (z1 + z0))) fun b2 =>
  k114 (b2, (x12 + 1))
noncomputable def g_but_114_b (a0 : Nat → Int32) (a1 : Nat → Int32) (a2 : Nat → Int32) (a3 : Nat → Int32) (k15 : (Nat → Int32) × Int32 × Int32 → Option (Nat → Int32)) (k114 : (Nat → Int32) × Int32 → Option (Nat → Int32)) (x4 : Int32) (x5 : Int32) (a6 : Nat → Int32) (x7 : Int32) (x8 : Int32) (x9 : Int32) (x11 : Int32) (x12 : Int32) : Option (Nat → Int32) :=
  if ((a0 (0 : Int32).toNatClampNeg) : Int32) ≤ x12 then
    g_but_158 a0 a1 a2 a3 k15 x4 x5 a6 x7 x8
  else
    if (x12 : Int32) < 0 ∨ 20 ≤ (x12 : Int32).toNatClampNeg then none else
    if (x12 : Int32) = x9 then
      if ((x11 + 1) : Int32) < 0 ∨ 45 ≤ ((x11 + 1) : Int32).toNatClampNeg then none else
      g_but_150 a0 a1 a2 a3 k15 k114 x4 x5 a6 x7 x8 x9 x11 x12 (a1 ((x11 + 1) : Int32).toNatClampNeg) (a6 (x12 : Int32).toNatClampNeg) x12
    else
      if ((x11 + 2) : Int32) < 0 ∨ 45 ≤ ((x11 + 2) : Int32).toNatClampNeg then none else
      g_but_150 a0 a1 a2 a3 k15 k114 x4 x5 a6 x7 x8 x9 x11 x12 (a1 ((x11 + 2) : Int32).toNatClampNeg) (a6 (x12 : Int32).toNatClampNeg) x12
noncomputable def g_but_114 (a0 : Nat → Int32) (a1 : Nat → Int32) (a2 : Nat → Int32) (a3 : Nat → Int32) (k15 : (Nat → Int32) × Int32 × Int32 → Option (Nat → Int32)) (x4 : Int32) (x5 : Int32) (x7 : Int32) (x8 : Int32) (x9 : Int32) (x11 : Int32) (p : (Nat → Int32) × Int32) : Option (Nat → Int32) :=
  wloop (fun k114 p => g_but_114_b a0 a1 a2 a3 k15 k114 x4 x5 p.1 x7 x8 x9 x11 p.2) fuelN p
noncomputable def g_but_97 (a0 : Nat → Int32) (a1 : Nat → Int32) (a2 : Nat → Int32) (a3 : Nat → Int32) (k15 : (Nat → Int32) × Int32 × Int32 → Option (Nat → Int32)) (x4 : Int32) (x5 : Int32) (a6 : Nat → Int32) (x7 : Int32) (x8 : Int32) (x9 : Int32) (x10 : Int32) (x11 : Int32) : Option (Nat → Int32) :=
  if (x10 : Int32) < 0 then
    g_but_158 a0 a1 a2 a3 k15 x4 x5 a6 x7 x8
  else
    if (x11 : Int32) < 0 ∨ 45 ≤ (x11 : Int32).toNatClampNeg then none else
    g_but_114 a0 a1 a2 a3 k15 x4 x5 (x7 - (a1 (x11 : Int32).toNatClampNeg)) x8 x9 x11 (a6, 0)
noncomputable def g_but_53 (a0 : Nat → Int32) (a1 : Nat → Int32) (a2 : Nat → Int32) (a3 : Nat → Int32) (k15 : (Nat → Int32) × Int32 × Int32 → Option (Nat → Int32)) (x4 : Int32) (x5 : Int32) (a6 : Nat → Int32) (x7 : Int32) (x8 : Int32) (x9 : Int32) (z0 : Int32) : Option (Nat → Int32) :=
  if ((6 + x8) : Int32) < 0 ∨ 20 ≤ ((6 + x8) : Int32).toNatClampNeg then none else
  bd (some (upd a6 ((6 + x8) : Int32).toNatClampNeg z0)) fun b2 =>
  if (z0 : Int32) < 0 then
    g_but_97 a0 a1 a2 a3 k15 x4 x5 b2 x7 x8 x9 z0 ((9 * x9) + (3 * z0))
  else
    if (((9 * x9) + (3 * z0)) : Int32) < 0 ∨ 45 ≤ (((9 * x9) + (3 * z0)) : Int32).toNatClampNeg then none else
    if ((a1 (((9 * x9) + (3 * z0)) : Int32).toNatClampNeg) : Int32) ≤ x7 then
      g_but_97 a0 a1 a2 a3 k15 x4 x5 b2 x7 x8 x9 z0 ((9 * x9) + (3 * z0))
    else
      g_but_158 a0 a1 a2 a3 k15 x4 x5 b2 0 x8
noncomputable def g_but_15_b (a0 : Nat → Int32) (a1 : Nat → Int32) (a2 : Nat → Int32) (a3 : Nat → Int32) (k15 : (Nat → Int32) × Int32 × Int32 → Option (Nat → Int32)) (x4 : Int32) (x5 : Int32) (a6 : Nat → Int32) (x7 : Int32) (x8 : Int32) : Option (Nat → Int32) :=
  bd (g_turns a0) fun r1 =>
  if (r1 : Int32) ≤ x8 then
    bd (some (upd a6 (5 : Int32).toNatClampNeg x7)) fun b3 =>
    some b3
  else
    bd (g_who a0 x8) fun r4 =>
    if (x8 : Int32) = x4 then
      g_but_53 a0 a1 a2 a3 k15 x4 x5 a6 x7 x8 r4 x5
    else
      bd (g_said a2 a3 x8 x7) fun r6 =>
      g_but_53 a0 a1 a2 a3 k15 x4 x5 a6 x7 x8 r4 r6
noncomputable def g_but_15 (a0 : Nat → Int32) (a1 : Nat → Int32) (a2 : Nat → Int32) (a3 : Nat → Int32) (x4 : Int32) (x5 : Int32) (p : (Nat → Int32) × Int32 × Int32) : Option (Nat → Int32) :=
  wloop (fun k15 p => g_but_15_b a0 a1 a2 a3 k15 x4 x5 p.1 p.2.1 p.2.2) fuelN p
noncomputable def g_but (a0 : Nat → Int32) (a1 : Nat → Int32) (a2 : Nat → Int32) (a3 : Nat → Int32) (x4 : Int32) (x5 : Int32) : Option (Nat → Int32) :=
  bd (g_start a0) fun r2 =>
  g_but_15 a0 a1 a2 a3 x4 x5 ((fun _ => 0), r2, 0)
set_option maxHeartbeats 4000000 in
set_option maxRecDepth 100000 in
theorem G_but_158 {l : Launch} {ad : Nat → Nat} {q0 : Nat} {q1 : Nat} {q2 : Nat} {q3 : Nat} (a0 : Nat → Int32) (a1 : Nat → Int32) (a2 : Nat → Int32) (a3 : Nat → Int32) (k15 : (Nat → Int32) × Int32 × Int32 → Option (Nat → Int32)) {q6 : Nat} (x4 : Int32) (x5 : Int32) (a6 : Nat → Int32) (x7 : Int32) (x8 : Int32) {σ : HS} (hk15 : ∀ (p : (Nat → Int32) × Int32 × Int32) (r : Nat → Int32), k15 p = some r → LR l cL_but 13 (some (.array .int)) (wsU yL_but cL_but 13 (some (.array .int))) rmL_but 0 0 ad [(q0, 44, a0), (q1, 45, a1), (q2, 64, a2), (q3, 64, a3)] (RetE cL_but (some (.array .int)) 1 (FA 20 σ r)) 15 [(0, .ref q0), (1, .ref q1), (2, .ref q2), (3, .ref q3), (4, .int x4), (5, .int x5), (6, .ref q6), (7, .int (p.2.1)), (8, .int (p.2.2))] [] σ [(q6, 20, p.1)] 1) (r : Nat → Int32) (h : g_but_158 a0 a1 a2 a3 k15 x4 x5 a6 x7 x8 = some r) : LR l cL_but 13 (some (.array .int)) (wsU yL_but cL_but 13 (some (.array .int))) rmL_but 0 0 ad [(q0, 44, a0), (q1, 45, a1), (q2, 64, a2), (q3, 64, a3)] (RetE cL_but (some (.array .int)) 1 (FA 20 σ r)) 158 [(0, .ref q0), (1, .ref q1), (2, .ref q2), (3, .ref q3), (4, .int x4), (5, .int x5), (6, .ref q6), (7, .int x7), (8, .int x8)] [] σ [(q6, 20, a6)] 1 := by
  unfold g_but_158 at h
  refine LR.aload_n (pc := 158) (j := 0) dL_but_158 rfl rfl ?_
  refine LR.iload (pc := 159) (j := 7) dL_but_159 rfl ?_
  refine LR.aload_n (pc := 161) (j := 0) dL_but_161 rfl rfl ?_
  refine LR.iconst (pc := 162) (v := 2) dL_but_162 (by decide) ?_
  refine LR.ialoadR (pc := 163) (j := 0) dL_but_163 rfl (by decide) ?_
  obtain ⟨r1, h1, h⟩ := bd_some h
  refine LR.callS0 (pc := 164) (As := [.ref q0, .int x7, .int (a0 (2 : Int32).toNatClampNeg)]) (st := []) (as2 := []) (asR := [(q6, 20, a6)]) (ro2 := [(q0, 44, a0)]) (mg := 0) (FIN := (FI σ r1)) [] [0] dL_but_164 ⟨cd_L_ahead, sm_L_ahead, ini_L⟩ ml_L_29 (G_ahead a0 x7 (a0 (2 : Int32).toNatClampNeg) r1 h1) ⟨rfl, pd_L_ahead⟩ ⟨Nat.le_of_ble_eq_true rfl, Nat.le_of_ble_eq_true rfl⟩ ⟨rfl, rfl⟩ rfl rfl rfl rfl rfl (by decide) (Or.inl ⟨[0], rfl⟩) rfl (Nat.le_of_ble_eq_true rfl) (fun v9 σ9 as9 hF9 => ?_)
  obtain ⟨rfl, e9, rfl⟩ := hF9; replace e9 := e9.symm; subst e9
  show LR l cL_but 13 (some (.array .int)) (wsU yL_but cL_but 13 (some (.array .int))) rmL_but 0 0 ad [(q0, 44, a0), (q1, 45, a1), (q2, 64, a2), (q3, 64, a3)] (RetE cL_but (some (.array .int)) 1 (FA 20 σ r)) 167 [(0, .ref q0), (1, .ref q1), (2, .ref q2), (3, .ref q3), (4, .int x4), (5, .int x5), (6, .ref q6), (7, .int x7), (8, .int x8)] [.int r1] σ [(q6, 20, a6)] 1
  refine LR.istore (pc := 167) (L2 := [(7, .int r1), (0, .ref q0), (1, .ref q1), (2, .ref q2), (3, .ref q3), (4, .int x4), (5, .int x5), (6, .ref q6), (8, .int x8)]) dL_but_167 (by decide) rfl ?_
  refine LR.iinc (pc := 169) (j := 8) (v := (x8 + 1)) (L2 := [(8, .int (x8 + 1)), (7, .int r1), (0, .ref q0), (1, .ref q1), (2, .ref q2), (3, .ref q3), (4, .int x4), (5, .int x5), (6, .ref q6)]) dL_but_169 rfl rfl (by decide) rfl ?_
  refine LR.goto (pc := 172) (tgt := 15) dL_but_172 (by decide) ?_
  exact LR.pick [2, 3, 4, 5, 6, 7, 8, 1, 0] rfl (hk15 (a6, r1, (x8 + 1)) r h)
set_option maxHeartbeats 4000000 in
set_option maxRecDepth 100000 in
theorem G_but_150 {l : Launch} {ad : Nat → Nat} {q0 : Nat} {q1 : Nat} {q2 : Nat} {q3 : Nat} (a0 : Nat → Int32) (a1 : Nat → Int32) (a2 : Nat → Int32) (a3 : Nat → Int32) (k15 : (Nat → Int32) × Int32 × Int32 → Option (Nat → Int32)) (k114 : (Nat → Int32) × Int32 → Option (Nat → Int32)) {q6 : Nat} (x4 : Int32) (x5 : Int32) (a6 : Nat → Int32) (x7 : Int32) (x8 : Int32) (x9 : Int32) (x11 : Int32) (x12 : Int32) (z0 : Int32) (z1 : Int32) (z2 : Int32) {σ : HS} (hk15 : ∀ (p : (Nat → Int32) × Int32 × Int32) (r : Nat → Int32), k15 p = some r → LR l cL_but 13 (some (.array .int)) (wsU yL_but cL_but 13 (some (.array .int))) rmL_but 0 0 ad [(q0, 44, a0), (q1, 45, a1), (q2, 64, a2), (q3, 64, a3)] (RetE cL_but (some (.array .int)) 1 (FA 20 σ r)) 15 [(0, .ref q0), (1, .ref q1), (2, .ref q2), (3, .ref q3), (4, .int x4), (5, .int x5), (6, .ref q6), (7, .int (p.2.1)), (8, .int (p.2.2))] [] σ [(q6, 20, p.1)] 1) (hk114 : ∀ (p : (Nat → Int32) × Int32) (r : Nat → Int32), k114 p = some r → LR l cL_but 13 (some (.array .int)) (wsU yL_but cL_but 13 (some (.array .int))) rmL_but 0 0 ad [(q0, 44, a0), (q1, 45, a1), (q2, 64, a2), (q3, 64, a3)] (RetE cL_but (some (.array .int)) 1 (FA 20 σ r)) 114 [(0, .ref q0), (1, .ref q1), (2, .ref q2), (3, .ref q3), (4, .int x4), (5, .int x5), (6, .ref q6), (7, .int x7), (8, .int x8), (9, .int x9), (11, .int x11), (12, .int (p.2))] [] σ [(q6, 20, p.1)] 1) (r : Nat → Int32) (h : g_but_150 a0 a1 a2 a3 k15 k114 x4 x5 a6 x7 x8 x9 x11 x12 z0 z1 z2 = some r) : LR l cL_but 13 (some (.array .int)) (wsU yL_but cL_but 13 (some (.array .int))) rmL_but 0 0 ad [(q0, 44, a0), (q1, 45, a1), (q2, 64, a2), (q3, 64, a3)] (RetE cL_but (some (.array .int)) 1 (FA 20 σ r)) 150 [(0, .ref q0), (1, .ref q1), (2, .ref q2), (3, .ref q3), (4, .int x4), (5, .int x5), (6, .ref q6), (7, .int x7), (8, .int x8), (9, .int x9), (11, .int x11), (12, .int x12)] [.int z0, .int z1, .int z2, .ref q6] σ [(q6, 20, a6)] 1 := by
  unfold g_but_150 at h
  refine LR.iadd (pc := 150) dL_but_150 ?_
  obtain ⟨c1, h⟩ := gn_some h
  obtain ⟨b2, e2, h⟩ := bd_some h
  replace e2 := Option.some.inj e2
  refine LR.iastore (pc := 151) (j := 0) (as2 := [(q6, 20, b2)]) dL_but_151 rfl c1 (by subst e2; rfl) ?_
  refine LR.iinc (pc := 152) (j := 11) (v := (x12 + 1)) (L2 := [(12, .int (x12 + 1)), (0, .ref q0), (1, .ref q1), (2, .ref q2), (3, .ref q3), (4, .int x4), (5, .int x5), (6, .ref q6), (7, .int x7), (8, .int x8), (9, .int x9), (11, .int x11)]) dL_but_152 rfl rfl (by decide) rfl ?_
  refine LR.goto (pc := 155) (tgt := 114) dL_but_155 (by decide) ?_
  exact LR.pick [1, 2, 3, 4, 5, 6, 7, 8, 9, 10, 11, 0] rfl (hk114 (b2, (x12 + 1)) r h)
set_option maxHeartbeats 4000000 in
set_option maxRecDepth 100000 in
theorem G_but_114_b {l : Launch} {ad : Nat → Nat} {q0 : Nat} {q1 : Nat} {q2 : Nat} {q3 : Nat} (a0 : Nat → Int32) (a1 : Nat → Int32) (a2 : Nat → Int32) (a3 : Nat → Int32) (k15 : (Nat → Int32) × Int32 × Int32 → Option (Nat → Int32)) (k114 : (Nat → Int32) × Int32 → Option (Nat → Int32)) {q6 : Nat} (x4 : Int32) (x5 : Int32) (a6 : Nat → Int32) (x7 : Int32) (x8 : Int32) (x9 : Int32) (x11 : Int32) (x12 : Int32) {σ : HS} (hk15 : ∀ (p : (Nat → Int32) × Int32 × Int32) (r : Nat → Int32), k15 p = some r → LR l cL_but 13 (some (.array .int)) (wsU yL_but cL_but 13 (some (.array .int))) rmL_but 0 0 ad [(q0, 44, a0), (q1, 45, a1), (q2, 64, a2), (q3, 64, a3)] (RetE cL_but (some (.array .int)) 1 (FA 20 σ r)) 15 [(0, .ref q0), (1, .ref q1), (2, .ref q2), (3, .ref q3), (4, .int x4), (5, .int x5), (6, .ref q6), (7, .int (p.2.1)), (8, .int (p.2.2))] [] σ [(q6, 20, p.1)] 1) (hk114 : ∀ (p : (Nat → Int32) × Int32) (r : Nat → Int32), k114 p = some r → LR l cL_but 13 (some (.array .int)) (wsU yL_but cL_but 13 (some (.array .int))) rmL_but 0 0 ad [(q0, 44, a0), (q1, 45, a1), (q2, 64, a2), (q3, 64, a3)] (RetE cL_but (some (.array .int)) 1 (FA 20 σ r)) 114 [(0, .ref q0), (1, .ref q1), (2, .ref q2), (3, .ref q3), (4, .int x4), (5, .int x5), (6, .ref q6), (7, .int x7), (8, .int x8), (9, .int x9), (11, .int x11), (12, .int (p.2))] [] σ [(q6, 20, p.1)] 1) (r : Nat → Int32) (h : g_but_114_b a0 a1 a2 a3 k15 k114 x4 x5 a6 x7 x8 x9 x11 x12 = some r) : LR l cL_but 13 (some (.array .int)) (wsU yL_but cL_but 13 (some (.array .int))) rmL_but 0 0 ad [(q0, 44, a0), (q1, 45, a1), (q2, 64, a2), (q3, 64, a3)] (RetE cL_but (some (.array .int)) 1 (FA 20 σ r)) 114 [(0, .ref q0), (1, .ref q1), (2, .ref q2), (3, .ref q3), (4, .int x4), (5, .int x5), (6, .ref q6), (7, .int x7), (8, .int x8), (9, .int x9), (11, .int x11), (12, .int x12)] [] σ [(q6, 20, a6)] 1 := by
  unfold g_but_114_b at h
  refine LR.iload (pc := 114) (j := 11) dL_but_114 rfl ?_
  refine LR.aload_n (pc := 116) (j := 0) dL_but_116 rfl rfl ?_
  refine LR.iconst (pc := 117) (v := 0) dL_but_117 (by decide) ?_
  refine LR.ialoadR (pc := 118) (j := 0) dL_but_118 rfl (by decide) ?_
  refine LR.icmp_ge (pc := 119) (tgt := 158) dL_but_119 (by decide) (fun c1 => ?_) (fun c1 => ?_)
  · replace h := ite_t c1 h
    exact LR.pick [0, 1, 2, 3, 4, 5, 6, 7, 8] rfl (G_but_158 a0 a1 a2 a3 k15 x4 x5 a6 x7 x8 hk15 r h)
  · replace h := ite_f c1 h
    refine LR.aload (pc := 122) (j := 6) dL_but_122 rfl ?_
    refine LR.iload (pc := 124) (j := 11) dL_but_124 rfl ?_
    refine LR.dup2 (pc := 126) dL_but_126 rfl rfl ?_
    obtain ⟨c2, h⟩ := gn_some h
    refine LR.iaload (pc := 127) (j := 0) dL_but_127 rfl c2 ?_
    refine LR.iload (pc := 128) (j := 11) dL_but_128 rfl ?_
    refine LR.iload (pc := 130) (j := 9) dL_but_130 rfl ?_
    refine LR.icmp_ne (pc := 132) (tgt := 144) dL_but_132 (by decide) (fun c3 => ?_) (fun c3 => ?_)
    · replace h := ite_f c3 h
      refine LR.aload_n (pc := 144) (j := 1) dL_but_144 rfl rfl ?_
      refine LR.iload (pc := 145) (j := 10) dL_but_145 rfl ?_
      refine LR.iconst (pc := 147) (v := 2) dL_but_147 (by decide) ?_
      refine LR.iadd (pc := 148) dL_but_148 ?_
      obtain ⟨c4, h⟩ := gn_some h
      refine LR.ialoadR (pc := 149) (j := 1) dL_but_149 rfl c4 ?_
      exact LR.pick [0, 1, 2, 3, 4, 5, 6, 7, 8, 9, 10, 11] rfl (G_but_150 a0 a1 a2 a3 k15 k114 x4 x5 a6 x7 x8 x9 x11 x12 (a1 ((x11 + 2) : Int32).toNatClampNeg) (a6 (x12 : Int32).toNatClampNeg) x12 hk15 hk114 r h)
    · replace h := ite_t c3 h
      refine LR.aload_n (pc := 135) (j := 1) dL_but_135 rfl rfl ?_
      refine LR.iload (pc := 136) (j := 10) dL_but_136 rfl ?_
      refine LR.iconst (pc := 138) (v := 1) dL_but_138 (by decide) ?_
      refine LR.iadd (pc := 139) dL_but_139 ?_
      obtain ⟨c5, h⟩ := gn_some h
      refine LR.ialoadR (pc := 140) (j := 1) dL_but_140 rfl c5 ?_
      refine LR.goto (pc := 141) (tgt := 150) dL_but_141 (by decide) ?_
      exact LR.pick [0, 1, 2, 3, 4, 5, 6, 7, 8, 9, 10, 11] rfl (G_but_150 a0 a1 a2 a3 k15 k114 x4 x5 a6 x7 x8 x9 x11 x12 (a1 ((x11 + 1) : Int32).toNatClampNeg) (a6 (x12 : Int32).toNatClampNeg) x12 hk15 hk114 r h)
theorem G_but_114 {l : Launch} {ad : Nat → Nat} {q0 : Nat} {q1 : Nat} {q2 : Nat} {q3 : Nat} (a0 : Nat → Int32) (a1 : Nat → Int32) (a2 : Nat → Int32) (a3 : Nat → Int32) (k15 : (Nat → Int32) × Int32 × Int32 → Option (Nat → Int32)) {q6 : Nat} (x4 : Int32) (x5 : Int32) (x7 : Int32) (x8 : Int32) (x9 : Int32) (x11 : Int32) {σ : HS} (hk15 : ∀ (p : (Nat → Int32) × Int32 × Int32) (r : Nat → Int32), k15 p = some r → LR l cL_but 13 (some (.array .int)) (wsU yL_but cL_but 13 (some (.array .int))) rmL_but 0 0 ad [(q0, 44, a0), (q1, 45, a1), (q2, 64, a2), (q3, 64, a3)] (RetE cL_but (some (.array .int)) 1 (FA 20 σ r)) 15 [(0, .ref q0), (1, .ref q1), (2, .ref q2), (3, .ref q3), (4, .int x4), (5, .int x5), (6, .ref q6), (7, .int (p.2.1)), (8, .int (p.2.2))] [] σ [(q6, 20, p.1)] 1) (p : (Nat → Int32) × Int32) (r : Nat → Int32) (h : g_but_114 a0 a1 a2 a3 k15 x4 x5 x7 x8 x9 x11 p = some r) : LR l cL_but 13 (some (.array .int)) (wsU yL_but cL_but 13 (some (.array .int))) rmL_but 0 0 ad [(q0, 44, a0), (q1, 45, a1), (q2, 64, a2), (q3, 64, a3)] (RetE cL_but (some (.array .int)) 1 (FA 20 σ r)) 114 [(0, .ref q0), (1, .ref q1), (2, .ref q2), (3, .ref q3), (4, .int x4), (5, .int x5), (6, .ref q6), (7, .int x7), (8, .int x8), (9, .int x9), (11, .int x11), (12, .int (p.2))] [] σ [(q6, 20, p.1)] 1 := by
  unfold g_but_114 at h
  exact wloop_run (body := fun k114 p => g_but_114_b a0 a1 a2 a3 k15 k114 x4 x5 p.1 x7 x8 x9 x11 p.2) (Q := (fun p r => LR l cL_but 13 (some (.array .int)) (wsU yL_but cL_but 13 (some (.array .int))) rmL_but 0 0 ad [(q0, 44, a0), (q1, 45, a1), (q2, 64, a2), (q3, 64, a3)] (RetE cL_but (some (.array .int)) 1 (FA 20 σ r)) 114 [(0, .ref q0), (1, .ref q1), (2, .ref q2), (3, .ref q3), (4, .int x4), (5, .int x5), (6, .ref q6), (7, .int x7), (8, .int x8), (9, .int x9), (11, .int x11), (12, .int (p.2))] [] σ [(q6, 20, p.1)] 1)) (fun k114 hk114 p r h => G_but_114_b a0 a1 a2 a3 k15 k114 x4 x5 p.1 x7 x8 x9 x11 p.2 hk15 hk114 r h) fuelN p r h
set_option maxHeartbeats 4000000 in
set_option maxRecDepth 100000 in
theorem G_but_97 {l : Launch} {ad : Nat → Nat} {q0 : Nat} {q1 : Nat} {q2 : Nat} {q3 : Nat} (a0 : Nat → Int32) (a1 : Nat → Int32) (a2 : Nat → Int32) (a3 : Nat → Int32) (k15 : (Nat → Int32) × Int32 × Int32 → Option (Nat → Int32)) {q6 : Nat} (x4 : Int32) (x5 : Int32) (a6 : Nat → Int32) (x7 : Int32) (x8 : Int32) (x9 : Int32) (x10 : Int32) (x11 : Int32) {σ : HS} (hk15 : ∀ (p : (Nat → Int32) × Int32 × Int32) (r : Nat → Int32), k15 p = some r → LR l cL_but 13 (some (.array .int)) (wsU yL_but cL_but 13 (some (.array .int))) rmL_but 0 0 ad [(q0, 44, a0), (q1, 45, a1), (q2, 64, a2), (q3, 64, a3)] (RetE cL_but (some (.array .int)) 1 (FA 20 σ r)) 15 [(0, .ref q0), (1, .ref q1), (2, .ref q2), (3, .ref q3), (4, .int x4), (5, .int x5), (6, .ref q6), (7, .int (p.2.1)), (8, .int (p.2.2))] [] σ [(q6, 20, p.1)] 1) (r : Nat → Int32) (h : g_but_97 a0 a1 a2 a3 k15 x4 x5 a6 x7 x8 x9 x10 x11 = some r) : LR l cL_but 13 (some (.array .int)) (wsU yL_but cL_but 13 (some (.array .int))) rmL_but 0 0 ad [(q0, 44, a0), (q1, 45, a1), (q2, 64, a2), (q3, 64, a3)] (RetE cL_but (some (.array .int)) 1 (FA 20 σ r)) 97 [(0, .ref q0), (1, .ref q1), (2, .ref q2), (3, .ref q3), (4, .int x4), (5, .int x5), (6, .ref q6), (7, .int x7), (8, .int x8), (9, .int x9), (10, .int x10), (11, .int x11)] [] σ [(q6, 20, a6)] 1 := by
  unfold g_but_97 at h
  refine LR.iload (pc := 97) (j := 10) dL_but_97 rfl ?_
  refine LR.if_lt (pc := 99) (tgt := 158) dL_but_99 (by decide) (fun c1 => ?_) (fun c1 => ?_)
  · replace h := ite_t c1 h
    exact LR.pick [0, 1, 2, 3, 4, 5, 6, 7, 8] rfl (G_but_158 a0 a1 a2 a3 k15 x4 x5 a6 x7 x8 hk15 r h)
  · replace h := ite_f c1 h
    refine LR.iload (pc := 102) (j := 7) dL_but_102 rfl ?_
    refine LR.aload_n (pc := 104) (j := 1) dL_but_104 rfl rfl ?_
    refine LR.iload (pc := 105) (j := 11) dL_but_105 rfl ?_
    obtain ⟨c2, h⟩ := gn_some h
    refine LR.ialoadR (pc := 107) (j := 1) dL_but_107 rfl c2 ?_
    refine LR.isub (pc := 108) dL_but_108 ?_
    refine LR.istore (pc := 109) (L2 := [(7, .int (x7 - (a1 (x11 : Int32).toNatClampNeg))), (0, .ref q0), (1, .ref q1), (2, .ref q2), (3, .ref q3), (4, .int x4), (5, .int x5), (6, .ref q6), (8, .int x8), (9, .int x9), (10, .int x10), (11, .int x11)]) dL_but_109 (by decide) rfl ?_
    refine LR.iconst (pc := 111) (v := 0) dL_but_111 (by decide) ?_
    refine LR.istore (pc := 112) (L2 := [(12, .int 0), (7, .int (x7 - (a1 (x11 : Int32).toNatClampNeg))), (0, .ref q0), (1, .ref q1), (2, .ref q2), (3, .ref q3), (4, .int x4), (5, .int x5), (6, .ref q6), (8, .int x8), (9, .int x9), (10, .int x10), (11, .int x11)]) dL_but_112 (by decide) rfl ?_
    exact LR.pick [2, 3, 4, 5, 6, 7, 8, 1, 9, 10, 12, 0] rfl (G_but_114 a0 a1 a2 a3 k15 x4 x5 (x7 - (a1 (x11 : Int32).toNatClampNeg)) x8 x9 x11 hk15 (a6, 0) r h)
set_option maxHeartbeats 4000000 in
set_option maxRecDepth 100000 in
theorem G_but_53 {l : Launch} {ad : Nat → Nat} {q0 : Nat} {q1 : Nat} {q2 : Nat} {q3 : Nat} (a0 : Nat → Int32) (a1 : Nat → Int32) (a2 : Nat → Int32) (a3 : Nat → Int32) (k15 : (Nat → Int32) × Int32 × Int32 → Option (Nat → Int32)) {q6 : Nat} (x4 : Int32) (x5 : Int32) (a6 : Nat → Int32) (x7 : Int32) (x8 : Int32) (x9 : Int32) (z0 : Int32) {σ : HS} (hk15 : ∀ (p : (Nat → Int32) × Int32 × Int32) (r : Nat → Int32), k15 p = some r → LR l cL_but 13 (some (.array .int)) (wsU yL_but cL_but 13 (some (.array .int))) rmL_but 0 0 ad [(q0, 44, a0), (q1, 45, a1), (q2, 64, a2), (q3, 64, a3)] (RetE cL_but (some (.array .int)) 1 (FA 20 σ r)) 15 [(0, .ref q0), (1, .ref q1), (2, .ref q2), (3, .ref q3), (4, .int x4), (5, .int x5), (6, .ref q6), (7, .int (p.2.1)), (8, .int (p.2.2))] [] σ [(q6, 20, p.1)] 1) (r : Nat → Int32) (h : g_but_53 a0 a1 a2 a3 k15 x4 x5 a6 x7 x8 x9 z0 = some r) : LR l cL_but 13 (some (.array .int)) (wsU yL_but cL_but 13 (some (.array .int))) rmL_but 0 0 ad [(q0, 44, a0), (q1, 45, a1), (q2, 64, a2), (q3, 64, a3)] (RetE cL_but (some (.array .int)) 1 (FA 20 σ r)) 53 [(0, .ref q0), (1, .ref q1), (2, .ref q2), (3, .ref q3), (4, .int x4), (5, .int x5), (6, .ref q6), (7, .int x7), (8, .int x8), (9, .int x9)] [.int z0] σ [(q6, 20, a6)] 1 := by
  unfold g_but_53 at h
  refine LR.istore (pc := 53) (L2 := [(10, .int z0), (0, .ref q0), (1, .ref q1), (2, .ref q2), (3, .ref q3), (4, .int x4), (5, .int x5), (6, .ref q6), (7, .int x7), (8, .int x8), (9, .int x9)]) dL_but_53 (by decide) rfl ?_
  refine LR.bipush (pc := 55) (v := 9) dL_but_55 (by decide) ?_
  refine LR.iload (pc := 57) (j := 10) dL_but_57 rfl ?_
  refine LR.imul (pc := 59) dL_but_59 ?_
  refine LR.iconst (pc := 60) (v := 3) dL_but_60 (by decide) ?_
  refine LR.iload (pc := 61) (j := 0) dL_but_61 rfl ?_
  refine LR.imul (pc := 63) dL_but_63 ?_
  refine LR.iadd (pc := 64) dL_but_64 ?_
  refine LR.istore (pc := 65) (L2 := [(11, .int ((9 * x9) + (3 * z0))), (10, .int z0), (0, .ref q0), (1, .ref q1), (2, .ref q2), (3, .ref q3), (4, .int x4), (5, .int x5), (6, .ref q6), (7, .int x7), (8, .int x8), (9, .int x9)]) dL_but_65 (by decide) rfl ?_
  refine LR.aload (pc := 67) (j := 8) dL_but_67 rfl ?_
  refine LR.bipush (pc := 69) (v := 6) dL_but_69 (by decide) ?_
  refine LR.iload (pc := 71) (j := 10) dL_but_71 rfl ?_
  refine LR.iadd (pc := 73) dL_but_73 ?_
  refine LR.iload (pc := 74) (j := 1) dL_but_74 rfl ?_
  obtain ⟨c1, h⟩ := gn_some h
  obtain ⟨b2, e2, h⟩ := bd_some h
  replace e2 := Option.some.inj e2
  refine LR.iastore (pc := 76) (j := 0) (as2 := [(q6, 20, b2)]) dL_but_76 rfl c1 (by subst e2; rfl) ?_
  refine LR.iload (pc := 77) (j := 1) dL_but_77 rfl ?_
  refine LR.if_lt (pc := 79) (tgt := 97) dL_but_79 (by decide) (fun c3 => ?_) (fun c3 => ?_)
  · replace h := ite_t c3 h
    exact LR.pick [2, 3, 4, 5, 6, 7, 8, 9, 10, 11, 1, 0] rfl (G_but_97 a0 a1 a2 a3 k15 x4 x5 b2 x7 x8 x9 z0 ((9 * x9) + (3 * z0)) hk15 r h)
  · replace h := ite_f c3 h
    refine LR.aload_n (pc := 82) (j := 3) dL_but_82 rfl rfl ?_
    refine LR.iload (pc := 83) (j := 0) dL_but_83 rfl ?_
    obtain ⟨c4, h⟩ := gn_some h
    refine LR.ialoadR (pc := 85) (j := 1) dL_but_85 rfl c4 ?_
    refine LR.iload (pc := 86) (j := 9) dL_but_86 rfl ?_
    refine LR.icmp_le (pc := 88) (tgt := 97) dL_but_88 (by decide) (fun c5 => ?_) (fun c5 => ?_)
    · replace h := ite_t c5 h
      exact LR.pick [2, 3, 4, 5, 6, 7, 8, 9, 10, 11, 1, 0] rfl (G_but_97 a0 a1 a2 a3 k15 x4 x5 b2 x7 x8 x9 z0 ((9 * x9) + (3 * z0)) hk15 r h)
    · replace h := ite_f c5 h
      refine LR.iconst (pc := 91) (v := 0) dL_but_91 (by decide) ?_
      refine LR.istore (pc := 92) (L2 := [(7, .int 0), (11, .int ((9 * x9) + (3 * z0))), (10, .int z0), (0, .ref q0), (1, .ref q1), (2, .ref q2), (3, .ref q3), (4, .int x4), (5, .int x5), (6, .ref q6), (8, .int x8), (9, .int x9)]) dL_but_92 (by decide) rfl ?_
      refine LR.goto (pc := 94) (tgt := 158) dL_but_94 (by decide) ?_
      exact LR.pick [3, 4, 5, 6, 7, 8, 9, 0, 10] rfl (G_but_158 a0 a1 a2 a3 k15 x4 x5 b2 0 x8 hk15 r h)
set_option maxHeartbeats 4000000 in
set_option maxRecDepth 100000 in
theorem G_but_15_b {l : Launch} {ad : Nat → Nat} {q0 : Nat} {q1 : Nat} {q2 : Nat} {q3 : Nat} (a0 : Nat → Int32) (a1 : Nat → Int32) (a2 : Nat → Int32) (a3 : Nat → Int32) (k15 : (Nat → Int32) × Int32 × Int32 → Option (Nat → Int32)) {q6 : Nat} (x4 : Int32) (x5 : Int32) (a6 : Nat → Int32) (x7 : Int32) (x8 : Int32) {σ : HS} (hk15 : ∀ (p : (Nat → Int32) × Int32 × Int32) (r : Nat → Int32), k15 p = some r → LR l cL_but 13 (some (.array .int)) (wsU yL_but cL_but 13 (some (.array .int))) rmL_but 0 0 ad [(q0, 44, a0), (q1, 45, a1), (q2, 64, a2), (q3, 64, a3)] (RetE cL_but (some (.array .int)) 1 (FA 20 σ r)) 15 [(0, .ref q0), (1, .ref q1), (2, .ref q2), (3, .ref q3), (4, .int x4), (5, .int x5), (6, .ref q6), (7, .int (p.2.1)), (8, .int (p.2.2))] [] σ [(q6, 20, p.1)] 1) (r : Nat → Int32) (h : g_but_15_b a0 a1 a2 a3 k15 x4 x5 a6 x7 x8 = some r) : LR l cL_but 13 (some (.array .int)) (wsU yL_but cL_but 13 (some (.array .int))) rmL_but 0 0 ad [(q0, 44, a0), (q1, 45, a1), (q2, 64, a2), (q3, 64, a3)] (RetE cL_but (some (.array .int)) 1 (FA 20 σ r)) 15 [(0, .ref q0), (1, .ref q1), (2, .ref q2), (3, .ref q3), (4, .int x4), (5, .int x5), (6, .ref q6), (7, .int x7), (8, .int x8)] [] σ [(q6, 20, a6)] 1 := by
  unfold g_but_15_b at h
  refine LR.iload (pc := 15) (j := 8) dL_but_15 rfl ?_
  refine LR.aload_n (pc := 17) (j := 0) dL_but_17 rfl rfl ?_
  obtain ⟨r1, h1, h⟩ := bd_some h
  refine LR.callS0 (pc := 18) (As := [.ref q0]) (st := [.int x8]) (as2 := []) (asR := [(q6, 20, a6)]) (ro2 := [(q0, 44, a0)]) (mg := 0) (FIN := (FI σ r1)) [] [0] dL_but_18 ⟨cd_L_turns, sm_L_turns, ini_L⟩ ml_L_36 (G_turns a0 r1 h1) ⟨rfl, pd_L_turns⟩ ⟨Nat.le_of_ble_eq_true rfl, Nat.le_of_ble_eq_true rfl⟩ ⟨rfl, rfl⟩ rfl rfl rfl rfl rfl (by decide) (Or.inl ⟨[0], rfl⟩) rfl (Nat.le_of_ble_eq_true rfl) (fun v9 σ9 as9 hF9 => ?_)
  obtain ⟨rfl, e9, rfl⟩ := hF9; replace e9 := e9.symm; subst e9
  show LR l cL_but 13 (some (.array .int)) (wsU yL_but cL_but 13 (some (.array .int))) rmL_but 0 0 ad [(q0, 44, a0), (q1, 45, a1), (q2, 64, a2), (q3, 64, a3)] (RetE cL_but (some (.array .int)) 1 (FA 20 σ r)) 21 [(0, .ref q0), (1, .ref q1), (2, .ref q2), (3, .ref q3), (4, .int x4), (5, .int x5), (6, .ref q6), (7, .int x7), (8, .int x8)] [.int r1, .int x8] σ [(q6, 20, a6)] 1
  refine LR.icmp_ge (pc := 21) (tgt := 175) dL_but_21 (by decide) (fun c2 => ?_) (fun c2 => ?_)
  · replace h := ite_t c2 h
    refine LR.aload (pc := 175) (j := 6) dL_but_175 rfl ?_
    refine LR.iconst (pc := 177) (v := 5) dL_but_177 (by decide) ?_
    refine LR.iload (pc := 178) (j := 7) dL_but_178 rfl ?_
    obtain ⟨b3, e3, h⟩ := bd_some h
    replace e3 := Option.some.inj e3
    refine LR.iastore (pc := 180) (j := 0) (as2 := [(q6, 20, b3)]) dL_but_180 rfl (by decide) (by subst e3; rfl) ?_
    refine LR.aload (pc := 181) (j := 6) dL_but_181 rfl ?_
    refine LR.sub (as2 := [(q6, 20, b3)]) [0] rfl rfl ?_
    exact LR.fin ⟨Nat.le_of_ble_eq_true rfl, Or.inr ⟨_, rfl, dL_but_183, rfl, ⟨_, rfl, rfl, by rw [Option.some.inj h]⟩⟩⟩
  · replace h := ite_f c2 h
    refine LR.aload_n (pc := 24) (j := 0) dL_but_24 rfl rfl ?_
    refine LR.iload (pc := 25) (j := 8) dL_but_25 rfl ?_
    obtain ⟨r4, h4, h⟩ := bd_some h
    refine LR.callS0 (pc := 27) (As := [.ref q0, .int x8]) (st := []) (as2 := []) (asR := [(q6, 20, a6)]) (ro2 := [(q0, 44, a0)]) (mg := 0) (FIN := (FI σ r4)) [] [0] dL_but_27 ⟨cd_L_who, sm_L_who, ini_L⟩ ml_L_33 (G_who a0 x8 r4 h4) ⟨rfl, pd_L_who⟩ ⟨Nat.le_of_ble_eq_true rfl, Nat.le_of_ble_eq_true rfl⟩ ⟨rfl, rfl⟩ rfl rfl rfl rfl rfl (by decide) (Or.inl ⟨[0], rfl⟩) rfl (Nat.le_of_ble_eq_true rfl) (fun v9 σ9 as9 hF9 => ?_)
    obtain ⟨rfl, e9, rfl⟩ := hF9; replace e9 := e9.symm; subst e9
    show LR l cL_but 13 (some (.array .int)) (wsU yL_but cL_but 13 (some (.array .int))) rmL_but 0 0 ad [(q0, 44, a0), (q1, 45, a1), (q2, 64, a2), (q3, 64, a3)] (RetE cL_but (some (.array .int)) 1 (FA 20 σ r)) 30 [(0, .ref q0), (1, .ref q1), (2, .ref q2), (3, .ref q3), (4, .int x4), (5, .int x5), (6, .ref q6), (7, .int x7), (8, .int x8)] [.int r4] σ [(q6, 20, a6)] 1
    refine LR.istore (pc := 30) (L2 := [(9, .int r4), (0, .ref q0), (1, .ref q1), (2, .ref q2), (3, .ref q3), (4, .int x4), (5, .int x5), (6, .ref q6), (7, .int x7), (8, .int x8)]) dL_but_30 (by decide) rfl ?_
    refine LR.iload (pc := 32) (j := 9) dL_but_32 rfl ?_
    refine LR.iload (pc := 34) (j := 5) dL_but_34 rfl ?_
    refine LR.icmp_ne (pc := 36) (tgt := 44) dL_but_36 (by decide) (fun c5 => ?_) (fun c5 => ?_)
    · replace h := ite_f c5 h
      refine LR.aload_n (pc := 44) (j := 3) dL_but_44 rfl rfl ?_
      refine LR.aload_n (pc := 45) (j := 4) dL_but_45 rfl rfl ?_
      refine LR.iload (pc := 46) (j := 9) dL_but_46 rfl ?_
      refine LR.iload (pc := 48) (j := 8) dL_but_48 rfl ?_
      obtain ⟨r6, h6, h⟩ := bd_some h
      refine LR.callS0 (pc := 50) (As := [.ref q2, .ref q3, .int x8, .int x7]) (st := []) (as2 := []) (asR := [(q6, 20, a6)]) (ro2 := [(q2, 64, a2), (q3, 64, a3)]) (mg := 0) (FIN := (FI σ r6)) [] [0] dL_but_50 ⟨cd_L_said, sm_L_said, ini_L⟩ ml_L_43 (G_said a2 a3 x8 x7 r6 h6) ⟨rfl, pd_L_said⟩ ⟨Nat.le_of_ble_eq_true rfl, Nat.le_of_ble_eq_true rfl⟩ ⟨rfl, rfl⟩ rfl rfl rfl rfl rfl (by decide) (Or.inl ⟨[2, 3], rfl⟩) rfl (Nat.le_of_ble_eq_true rfl) (fun v9 σ9 as9 hF9 => ?_)
      obtain ⟨rfl, e9, rfl⟩ := hF9; replace e9 := e9.symm; subst e9
      show LR l cL_but 13 (some (.array .int)) (wsU yL_but cL_but 13 (some (.array .int))) rmL_but 0 0 ad [(q0, 44, a0), (q1, 45, a1), (q2, 64, a2), (q3, 64, a3)] (RetE cL_but (some (.array .int)) 1 (FA 20 σ r)) 53 [(9, .int r4), (0, .ref q0), (1, .ref q1), (2, .ref q2), (3, .ref q3), (4, .int x4), (5, .int x5), (6, .ref q6), (7, .int x7), (8, .int x8)] [.int r6] σ [(q6, 20, a6)] 1
      exact LR.pick [1, 2, 3, 4, 5, 6, 7, 8, 9, 0] rfl (G_but_53 a0 a1 a2 a3 k15 x4 x5 a6 x7 x8 r4 r6 hk15 r h)
    · replace h := ite_t c5 h
      refine LR.iload (pc := 39) (j := 6) dL_but_39 rfl ?_
      refine LR.goto (pc := 41) (tgt := 53) dL_but_41 (by decide) ?_
      exact LR.pick [1, 2, 3, 4, 5, 6, 7, 8, 9, 0] rfl (G_but_53 a0 a1 a2 a3 k15 x4 x5 a6 x7 x8 r4 x5 hk15 r h)
theorem G_but_15 {l : Launch} {ad : Nat → Nat} {q0 : Nat} {q1 : Nat} {q2 : Nat} {q3 : Nat} (a0 : Nat → Int32) (a1 : Nat → Int32) (a2 : Nat → Int32) (a3 : Nat → Int32) {q6 : Nat} (x4 : Int32) (x5 : Int32) {σ : HS} (p : (Nat → Int32) × Int32 × Int32) (r : Nat → Int32) (h : g_but_15 a0 a1 a2 a3 x4 x5 p = some r) : LR l cL_but 13 (some (.array .int)) (wsU yL_but cL_but 13 (some (.array .int))) rmL_but 0 0 ad [(q0, 44, a0), (q1, 45, a1), (q2, 64, a2), (q3, 64, a3)] (RetE cL_but (some (.array .int)) 1 (FA 20 σ r)) 15 [(0, .ref q0), (1, .ref q1), (2, .ref q2), (3, .ref q3), (4, .int x4), (5, .int x5), (6, .ref q6), (7, .int (p.2.1)), (8, .int (p.2.2))] [] σ [(q6, 20, p.1)] 1 := by
  unfold g_but_15 at h
  exact wloop_run (body := fun k15 p => g_but_15_b a0 a1 a2 a3 k15 x4 x5 p.1 p.2.1 p.2.2) (Q := (fun p r => LR l cL_but 13 (some (.array .int)) (wsU yL_but cL_but 13 (some (.array .int))) rmL_but 0 0 ad [(q0, 44, a0), (q1, 45, a1), (q2, 64, a2), (q3, 64, a3)] (RetE cL_but (some (.array .int)) 1 (FA 20 σ r)) 15 [(0, .ref q0), (1, .ref q1), (2, .ref q2), (3, .ref q3), (4, .int x4), (5, .int x5), (6, .ref q6), (7, .int (p.2.1)), (8, .int (p.2.2))] [] σ [(q6, 20, p.1)] 1)) (fun k15 hk15 p r h => G_but_15_b a0 a1 a2 a3 k15 x4 x5 p.1 p.2.1 p.2.2 hk15 r h) fuelN p r h
set_option maxHeartbeats 4000000 in
set_option maxRecDepth 100000 in
theorem G_but {l : Launch} {ad : Nat → Nat} {q0 : Nat} {q1 : Nat} {q2 : Nat} {q3 : Nat} (a0 : Nat → Int32) (a1 : Nat → Int32) (a2 : Nat → Int32) (a3 : Nat → Int32) (x4 : Int32) (x5 : Int32) {σ : HS} (r : Nat → Int32) (h : g_but a0 a1 a2 a3 x4 x5 = some r) : LM l yL_but (wsU yL_but cL_but 13 (some (.array .int))) rmL_but 1 [.ref q0, .ref q1, .ref q2, .ref q3, .int x4, .int x5] ad σ [] [(q0, 44, a0), (q1, 45, a1), (q2, 64, a2), (q3, 64, a3)] (FA 20 σ r) := by
  refine LM.of (L := [(0, .ref q0), (1, .ref q1), (2, .ref q2), (3, .ref q3), (4, .int x4), (5, .int x5)]) pn_L_but rfl (Nat.le_of_ble_eq_true rfl) rfl ?_
  unfold g_but at h
  refine LR.bipush (pc := 0) (v := 20) dL_but_0 (by decide) ?_
  refine LR.newa (pc := 2) (N := 20) dL_but_2 (by decide) (by decide) (by decide) ⟨Nat.le_of_ble_eq_true rfl, Nat.le_of_ble_eq_true rfl⟩ (fun qn1 => ?_)
  show LR l cL_but 13 (some (.array .int)) (wsU yL_but cL_but 13 (some (.array .int))) rmL_but 0 0 ad [(q0, 44, a0), (q1, 45, a1), (q2, 64, a2), (q3, 64, a3)] (RetE cL_but (some (.array .int)) 1 (FA 20 σ r)) 4 [(0, .ref q0), (1, .ref q1), (2, .ref q2), (3, .ref q3), (4, .int x4), (5, .int x5)] [.ref qn1] σ [(qn1, 20, (fun _ => 0))] 1
  refine LR.astore (pc := 4) (L2 := [(6, .ref qn1), (0, .ref q0), (1, .ref q1), (2, .ref q2), (3, .ref q3), (4, .int x4), (5, .int x5)]) dL_but_4 (by decide) rfl ?_
  refine LR.aload_n (pc := 6) (j := 1) dL_but_6 rfl rfl ?_
  obtain ⟨r2, h2, h⟩ := bd_some h
  refine LR.callS0 (pc := 7) (As := [.ref q0]) (st := []) (as2 := []) (asR := [(qn1, 20, (fun _ => 0))]) (ro2 := [(q0, 44, a0)]) (mg := 0) (FIN := (FI σ r2)) [] [0] dL_but_7 ⟨cd_L_start, sm_L_start, ini_L⟩ ml_L_47 (G_start a0 r2 h2) ⟨rfl, pd_L_start⟩ ⟨Nat.le_of_ble_eq_true rfl, Nat.le_of_ble_eq_true rfl⟩ ⟨rfl, rfl⟩ rfl rfl rfl rfl rfl (by decide) (Or.inl ⟨[0], rfl⟩) rfl (Nat.le_of_ble_eq_true rfl) (fun v9 σ9 as9 hF9 => ?_)
  obtain ⟨rfl, e9, rfl⟩ := hF9; replace e9 := e9.symm; subst e9
  show LR l cL_but 13 (some (.array .int)) (wsU yL_but cL_but 13 (some (.array .int))) rmL_but 0 0 ad [(q0, 44, a0), (q1, 45, a1), (q2, 64, a2), (q3, 64, a3)] (RetE cL_but (some (.array .int)) 1 (FA 20 σ r)) 10 [(6, .ref qn1), (0, .ref q0), (1, .ref q1), (2, .ref q2), (3, .ref q3), (4, .int x4), (5, .int x5)] [.int r2] σ [(qn1, 20, (fun _ => 0))] 1
  refine LR.istore (pc := 10) (L2 := [(7, .int r2), (6, .ref qn1), (0, .ref q0), (1, .ref q1), (2, .ref q2), (3, .ref q3), (4, .int x4), (5, .int x5)]) dL_but_10 (by decide) rfl ?_
  refine LR.iconst (pc := 12) (v := 0) dL_but_12 (by decide) ?_
  refine LR.istore (pc := 13) (L2 := [(8, .int 0), (7, .int r2), (6, .ref qn1), (0, .ref q0), (1, .ref q1), (2, .ref q2), (3, .ref q3), (4, .int x4), (5, .int x5)]) dL_but_13 (by decide) rfl ?_
  exact LR.pick [3, 4, 5, 6, 7, 8, 2, 1, 0] rfl (G_but_15 a0 a1 a2 a3 x4 x5 ((fun _ => 0), r2, 0) r h)
