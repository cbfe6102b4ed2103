noncomputable def g_read_118 (a1 : Nat → Int32) (k3 : (Nat → Int32) × (Nat → Int32) × Int32 × HS → Option (Int32 × HS × (Nat → Int32) × (Nat → Int32))) (a2 : Nat → Int32) (a3 : Nat → Int32) (x4 : Int32) (σ : HS) : Option (Int32 × HS × (Nat → Int32) × (Nat → Int32)) :=
  k3 (a2, a3, (x4 + 1), σ)
noncomputable def g_read_79 (a1 : Nat → Int32) (k3 : (Nat → Int32) × (Nat → Int32) × Int32 × HS → Option (Int32 × HS × (Nat → Int32) × (Nat → Int32))) (k17 : Int32 × Int32 × HS → Option (Int32 × HS × (Nat → Int32) × (Nat → Int32))) (a2 : Nat → Int32) (a3 : Nat → Int32) (x4 : Int32) (x6 : Int32) (z0 : Int32) (z1 : Int32) (σ : HS) : Option (Int32 × HS × (Nat → Int32) × (Nat → Int32)) :=
  k17 ((z1 ||| (z0 <<< ((2 * x6) &&& 31))), (x6 + 1), σ)
noncomputable def g_read_66 (a1 : Nat → Int32) (k3 : (Nat → Int32) × (Nat → Int32) × Int32 × HS → Option (Int32 × HS × (Nat → Int32) × (Nat → Int32))) (k17 : Int32 × Int32 × HS → Option (Int32 × HS × (Nat → Int32) × (Nat → Int32))) (a2 : Nat → Int32) (a3 : Nat → Int32) (x4 : Int32) (x5 : Int32) (x6 : Int32) (x7 : Int32) (σ : HS) : Option (Int32 × HS × (Nat → Int32) × (Nat → Int32)) :=
  if 0 ≤ (x7 : Int32) then
    g_read_79 a1 k3 k17 a2 a3 x4 x6 x7 x5 σ
  else
    g_read_79 a1 k3 k17 a2 a3 x4 x6 3 x5 σ
noncomputable def g_read_17_b (a1 : Nat → Int32) (k3 : (Nat → Int32) × (Nat → Int32) × Int32 × HS → Option (Int32 × HS × (Nat → Int32) × (Nat → Int32))) (k17 : Int32 × Int32 × HS → Option (Int32 × HS × (Nat → Int32) × (Nat → Int32))) (a2 : Nat → Int32) (a3 : Nat → Int32) (x4 : Int32) (x5 : Int32) (x6 : Int32) (σ : HS) : Option (Int32 × HS × (Nat → Int32) × (Nat → Int32)) :=
  bd (g_turns a1) fun r1 =>
  if (r1 : Int32) ≤ x6 then
    if (64 : Int32) ≤ x4 then
      if ((x4 - 64) : Int32) < 0 ∨ 64 ≤ ((x4 - 64) : Int32).toNatClampNeg then none else
      bd (some (upd a3 ((x4 - 64) : Int32).toNatClampNeg x5)) fun b5 =>
      g_read_118 a1 k3 a2 b5 x4 σ
    else
      if (x4 : Int32) < 0 ∨ 64 ≤ (x4 : Int32).toNatClampNeg then none else
      bd (some (upd a2 (x4 : Int32).toNatClampNeg x5)) fun b7 =>
      g_read_118 a1 k3 b7 a3 x4 σ
  else
    bd (f8_choice x6 x4 σ) fun r8 =>
    if (r8.1 : Int32) = (-9) then
      g_read_66 a1 k3 k17 a2 a3 x4 x5 x6 (r8.1) (r8.2)
    else
      if (r8.1 : Int32) < 0 then
        some (0, r8.2, a2, a3)
      else
        bd (g_who a1 x6) fun r11 =>
        if ((9 + r11) : Int32) < 0 ∨ 44 ≤ ((9 + r11) : Int32).toNatClampNeg then none else
        if (r8.1 : Int32) < (a1 ((9 + r11) : Int32).toNatClampNeg) then
          g_read_66 a1 k3 k17 a2 a3 x4 x5 x6 (r8.1) (r8.2)
        else
          some (0, r8.2, a2, a3)
noncomputable def g_read_17 (a1 : Nat → Int32) (k3 : (Nat → Int32) × (Nat → Int32) × Int32 × HS → Option (Int32 × HS × (Nat → Int32) × (Nat → Int32))) (a2 : Nat → Int32) (a3 : Nat → Int32) (x4 : Int32) (p : Int32 × Int32 × HS) : Option (Int32 × HS × (Nat → Int32) × (Nat → Int32)) :=
  wloop (fun k17 p => g_read_17_b a1 k3 k17 a2 a3 x4 p.1 p.2.1 p.2.2) fuelN p
noncomputable def g_read_3_b (a1 : Nat → Int32) (k3 : (Nat → Int32) × (Nat → Int32) × Int32 × HS → Option (Int32 × HS × (Nat → Int32) × (Nat → Int32))) (a2 : Nat → Int32) (a3 : Nat → Int32) (x4 : Int32) (σ : HS) : Option (Int32 × HS × (Nat → Int32) × (Nat → Int32)) :=
  if ((a1 (1 : Int32).toNatClampNeg) : Int32) < x4 then
    some (1, σ, a2, a3)
  else
    g_read_17 a1 k3 a2 a3 x4 (0, 0, σ)
noncomputable def g_read_3 (a1 : Nat → Int32) (p : (Nat → Int32) × (Nat → Int32) × Int32 × HS) : Option (Int32 × HS × (Nat → Int32) × (Nat → Int32)) :=
  wloop (fun k3 p => g_read_3_b a1 k3 p.1 p.2.1 p.2.2.1 p.2.2.2) fuelN p
noncomputable def g_read (a1 : Nat → Int32) (a2 : Nat → Int32) (a3 : Nat → Int32) (σ : HS) : Option (Int32 × HS × (Nat → Int32) × (Nat → Int32)) :=
  g_read_3 a1 (a2, a3, 0, σ)
set_option maxHeartbeats 4000000 in
set_option maxRecDepth 100000 in
theorem G_read_118 {l : Launch} {ad : Nat → Nat} {q1 : Nat} {q2 : Nat} {q3 : Nat} (a1 : Nat → Int32) (k3 : (Nat → Int32) × (Nat → Int32) × Int32 × HS → Option (Int32 × HS × (Nat → Int32) × (Nat → Int32))) (a2 : Nat → Int32) (a3 : Nat → Int32) (x4 : Int32) (σ : HS) (hk3 : ∀ (p : (Nat → Int32) × (Nat → Int32) × Int32 × HS) (r : Int32 × HS × (Nat → Int32) × (Nat → Int32)), k3 p = some r → LR l cL_read 8 (some .boolean) (wsU yL_read cL_read 8 (some .boolean)) rmL_read 0 0 ad [(q1, 44, a1)] (RetE cL_read (some .boolean) 0 (FW q2 64 q3 64 r)) 3 [(0, .ref (ad 0)), (1, .ref q1), (2, .ref q2), (3, .ref q3), (4, .int (p.2.2.1))] [] (p.2.2.2) [(q2, 64, p.1), (q3, 64, p.2.1)] 0) (r : Int32 × HS × (Nat → Int32) × (Nat → Int32)) (h : g_read_118 a1 k3 a2 a3 x4 σ = some r) : LR l cL_read 8 (some .boolean) (wsU yL_read cL_read 8 (some .boolean)) rmL_read 0 0 ad [(q1, 44, a1)] (RetE cL_read (some .boolean) 0 (FW q2 64 q3 64 r)) 118 [(0, .ref (ad 0)), (1, .ref q1), (2, .ref q2), (3, .ref q3), (4, .int x4)] [] σ [(q2, 64, a2), (q3, 64, a3)] 0 := by
  unfold g_read_118 at h
  refine LR.iinc (pc := 118) (j := 4) (v := (x4 + 1)) (L2 := [(4, .int (x4 + 1)), (0, .ref (ad 0)), (1, .ref q1), (2, .ref q2), (3, .ref q3)]) dL_read_118 rfl rfl (by decide) rfl ?_
  refine LR.goto (pc := 121) (tgt := 3) dL_read_121 (by decide) ?_
  exact LR.pick [1, 2, 3, 4, 0] rfl (hk3 (a2, a3, (x4 + 1), σ) r h)
set_option maxHeartbeats 4000000 in
set_option maxRecDepth 100000 in
theorem G_read_79 {l : Launch} {ad : Nat → Nat} {q1 : Nat} {q2 : Nat} {q3 : Nat} (a1 : Nat → Int32) (k3 : (Nat → Int32) × (Nat → Int32) × Int32 × HS → Option (Int32 × HS × (Nat → Int32) × (Nat → Int32))) (k17 : Int32 × Int32 × HS → Option (Int32 × HS × (Nat → Int32) × (Nat → Int32))) (a2 : Nat → Int32) (a3 : Nat → Int32) (x4 : Int32) (x6 : Int32) (z0 : Int32) (z1 : Int32) (σ : HS) (hk3 : ∀ (p : (Nat → Int32) × (Nat → Int32) × Int32 × HS) (r : Int32 × HS × (Nat → Int32) × (Nat → Int32)), k3 p = some r → LR l cL_read 8 (some .boolean) (wsU yL_read cL_read 8 (some .boolean)) rmL_read 0 0 ad [(q1, 44, a1)] (RetE cL_read (some .boolean) 0 (FW q2 64 q3 64 r)) 3 [(0, .ref (ad 0)), (1, .ref q1), (2, .ref q2), (3, .ref q3), (4, .int (p.2.2.1))] [] (p.2.2.2) [(q2, 64, p.1), (q3, 64, p.2.1)] 0) (hk17 : ∀ (p : Int32 × Int32 × HS) (r : Int32 × HS × (Nat → Int32) × (Nat → Int32)), k17 p = some r → LR l cL_read 8 (some .boolean) (wsU yL_read cL_read 8 (some .boolean)) rmL_read 0 0 ad [(q1, 44, a1)] (RetE cL_read (some .boolean) 0 (FW q2 64 q3 64 r)) 17 [(0, .ref (ad 0)), (1, .ref q1), (2, .ref q2), (3, .ref q3), (4, .int x4), (5, .int (p.1)), (6, .int (p.2.1))] [] (p.2.2) [(q2, 64, a2), (q3, 64, a3)] 0) (r : Int32 × HS × (Nat → Int32) × (Nat → Int32)) (h : g_read_79 a1 k3 k17 a2 a3 x4 x6 z0 z1 σ = some r) : LR l cL_read 8 (some .boolean) (wsU yL_read cL_read 8 (some .boolean)) rmL_read 0 0 ad [(q1, 44, a1)] (RetE cL_read (some .boolean) 0 (FW q2 64 q3 64 r)) 79 [(0, .ref (ad 0)), (1, .ref q1), (2, .ref q2), (3, .ref q3), (4, .int x4), (6, .int x6)] [.int z0, .int z1] σ [(q2, 64, a2), (q3, 64, a3)] 0 := by
  unfold g_read_79 at h
  refine LR.iconst (pc := 79) (v := 2) dL_read_79 (by decide) ?_
  refine LR.iload (pc := 80) (j := 5) dL_read_80 rfl ?_
  refine LR.imul (pc := 82) dL_read_82 ?_
  refine LR.ishl (pc := 83) dL_read_83 ?_
  refine LR.ior (pc := 84) dL_read_84 ?_
  refine LR.istore (pc := 85) (L2 := [(5, .int (z1 ||| (z0 <<< ((2 * x6) &&& 31)))), (0, .ref (ad 0)), (1, .ref q1), (2, .ref q2), (3, .ref q3), (4, .int x4), (6, .int x6)]) dL_read_85 (by decide) rfl ?_
  refine LR.iinc (pc := 87) (j := 6) (v := (x6 + 1)) (L2 := [(6, .int (x6 + 1)), (5, .int (z1 ||| (z0 <<< ((2 * x6) &&& 31)))), (0, .ref (ad 0)), (1, .ref q1), (2, .ref q2), (3, .ref q3), (4, .int x4)]) dL_read_87 rfl rfl (by decide) rfl ?_
  refine LR.goto (pc := 90) (tgt := 17) dL_read_90 (by decide) ?_
  exact LR.pick [2, 3, 4, 5, 6, 1, 0] rfl (hk17 ((z1 ||| (z0 <<< ((2 * x6) &&& 31))), (x6 + 1), σ) r h)
set_option maxHeartbeats 4000000 in
set_option maxRecDepth 100000 in
theorem G_read_66 {l : Launch} {ad : Nat → Nat} {q1 : Nat} {q2 : Nat} {q3 : Nat} (a1 : Nat → Int32) (k3 : (Nat → Int32) × (Nat → Int32) × Int32 × HS → Option (Int32 × HS × (Nat → Int32) × (Nat → Int32))) (k17 : Int32 × Int32 × HS → Option (Int32 × HS × (Nat → Int32) × (Nat → Int32))) (a2 : Nat → Int32) (a3 : Nat → Int32) (x4 : Int32) (x5 : Int32) (x6 : Int32) (x7 : Int32) (σ : HS) (hk3 : ∀ (p : (Nat → Int32) × (Nat → Int32) × Int32 × HS) (r : Int32 × HS × (Nat → Int32) × (Nat → Int32)), k3 p = some r → LR l cL_read 8 (some .boolean) (wsU yL_read cL_read 8 (some .boolean)) rmL_read 0 0 ad [(q1, 44, a1)] (RetE cL_read (some .boolean) 0 (FW q2 64 q3 64 r)) 3 [(0, .ref (ad 0)), (1, .ref q1), (2, .ref q2), (3, .ref q3), (4, .int (p.2.2.1))] [] (p.2.2.2) [(q2, 64, p.1), (q3, 64, p.2.1)] 0) (hk17 : ∀ (p : Int32 × Int32 × HS) (r : Int32 × HS × (Nat → Int32) × (Nat → Int32)), k17 p = some r → LR l cL_read 8 (some .boolean) (wsU yL_read cL_read 8 (some .boolean)) rmL_read 0 0 ad [(q1, 44, a1)] (RetE cL_read (some .boolean) 0 (FW q2 64 q3 64 r)) 17 [(0, .ref (ad 0)), (1, .ref q1), (2, .ref q2), (3, .ref q3), (4, .int x4), (5, .int (p.1)), (6, .int (p.2.1))] [] (p.2.2) [(q2, 64, a2), (q3, 64, a3)] 0) (r : Int32 × HS × (Nat → Int32) × (Nat → Int32)) (h : g_read_66 a1 k3 k17 a2 a3 x4 x5 x6 x7 σ = some r) : LR l cL_read 8 (some .boolean) (wsU yL_read cL_read 8 (some .boolean)) rmL_read 0 0 ad [(q1, 44, a1)] (RetE cL_read (some .boolean) 0 (FW q2 64 q3 64 r)) 66 [(0, .ref (ad 0)), (1, .ref q1), (2, .ref q2), (3, .ref q3), (4, .int x4), (5, .int x5), (6, .int x6), (7, .int x7)] [] σ [(q2, 64, a2), (q3, 64, a3)] 0 := by
  unfold g_read_66 at h
  refine LR.iload (pc := 66) (j := 5) dL_read_66 rfl ?_
  refine LR.iload (pc := 68) (j := 7) dL_read_68 rfl ?_
  refine LR.if_ge (pc := 70) (tgt := 77) dL_read_70 (by decide) (fun c1 => ?_) (fun c1 => ?_)
  · replace h := ite_t c1 h
    refine LR.iload (pc := 77) (j := 7) dL_read_77 rfl ?_
    exact LR.pick [0, 1, 2, 3, 4, 6] rfl (G_read_79 a1 k3 k17 a2 a3 x4 x6 x7 x5 σ hk3 hk17 r h)
  · replace h := ite_f c1 h
    refine LR.iconst (pc := 73) (v := 3) dL_read_73 (by decide) ?_
    refine LR.goto (pc := 74) (tgt := 79) dL_read_74 (by decide) ?_
    exact LR.pick [0, 1, 2, 3, 4, 6] rfl (G_read_79 a1 k3 k17 a2 a3 x4 x6 3 x5 σ hk3 hk17 r h)
set_option maxHeartbeats 4000000 in
set_option maxRecDepth 100000 in
theorem G_read_17_b {l : Launch} {ad : Nat → Nat} {q1 : Nat} {q2 : Nat} {q3 : Nat} (a1 : Nat → Int32) (k3 : (Nat → Int32) × (Nat → Int32) × Int32 × HS → Option (Int32 × HS × (Nat → Int32) × (Nat → Int32))) (k17 : Int32 × Int32 × HS → Option (Int32 × HS × (Nat → Int32) × (Nat → Int32))) (a2 : Nat → Int32) (a3 : Nat → Int32) (x4 : Int32) (x5 : Int32) (x6 : Int32) (σ : HS) (hk3 : ∀ (p : (Nat → Int32) × (Nat → Int32) × Int32 × HS) (r : Int32 × HS × (Nat → Int32) × (Nat → Int32)), k3 p = some r → LR l cL_read 8 (some .boolean) (wsU yL_read cL_read 8 (some .boolean)) rmL_read 0 0 ad [(q1, 44, a1)] (RetE cL_read (some .boolean) 0 (FW q2 64 q3 64 r)) 3 [(0, .ref (ad 0)), (1, .ref q1), (2, .ref q2), (3, .ref q3), (4, .int (p.2.2.1))] [] (p.2.2.2) [(q2, 64, p.1), (q3, 64, p.2.1)] 0) (hk17 : ∀ (p : Int32 × Int32 × HS) (r : Int32 × HS × (Nat → Int32) × (Nat → Int32)), k17 p = some r → LR l cL_read 8 (some .boolean) (wsU yL_read cL_read 8 (some .boolean)) rmL_read 0 0 ad [(q1, 44, a1)] (RetE cL_read (some .boolean) 0 (FW q2 64 q3 64 r)) 17 [(0, .ref (ad 0)), (1, .ref q1), (2, .ref q2), (3, .ref q3), (4, .int x4), (5, .int (p.1)), (6, .int (p.2.1))] [] (p.2.2) [(q2, 64, a2), (q3, 64, a3)] 0) (r : Int32 × HS × (Nat → Int32) × (Nat → Int32)) (h : g_read_17_b a1 k3 k17 a2 a3 x4 x5 x6 σ = some r) : LR l cL_read 8 (some .boolean) (wsU yL_read cL_read 8 (some .boolean)) rmL_read 0 0 ad [(q1, 44, a1)] (RetE cL_read (some .boolean) 0 (FW q2 64 q3 64 r)) 17 [(0, .ref (ad 0)), (1, .ref q1), (2, .ref q2), (3, .ref q3), (4, .int x4), (5, .int x5), (6, .int x6)] [] σ [(q2, 64, a2), (q3, 64, a3)] 0 := by
  unfold g_read_17_b at h
  refine LR.iload (pc := 17) (j := 6) dL_read_17 rfl ?_
  refine LR.aload_n (pc := 19) (j := 1) dL_read_19 rfl rfl ?_
  obtain ⟨r1, h1, h⟩ := bd_some h
  refine LR.callS0 (pc := 20) (As := [.ref q1]) (st := [.int x6]) (as2 := []) (asR := [(q2, 64, a2), (q3, 64, a3)]) (ro2 := [(q1, 44, a1)]) (mg := 0) (FIN := (FI σ r1)) [] [0, 1] dL_read_20 ⟨cd_L_turns, sm_L_turns, ini_L⟩ ml_L_36 (G_turns a1 r1 h1) ⟨rfl, pd_L_turns⟩ ⟨Nat.le_of_ble_eq_true rfl, Nat.le_of_ble_eq_true rfl⟩ ⟨rfl, rfl⟩ rfl rfl rfl rfl rfl (by decide) (Or.inl ⟨[0], rfl⟩) rfl (Nat.le_of_ble_eq_true rfl) (fun v9 σ9 as9 hF9 => ?_)
  obtain ⟨rfl, e9, rfl⟩ := hF9; replace e9 := e9.symm; subst e9
  show LR l cL_read 8 (some .boolean) (wsU yL_read cL_read 8 (some .boolean)) rmL_read 0 0 ad [(q1, 44, a1)] (RetE cL_read (some .boolean) 0 (FW q2 64 q3 64 r)) 23 [(0, .ref (ad 0)), (1, .ref q1), (2, .ref q2), (3, .ref q3), (4, .int x4), (5, .int x5), (6, .int x6)] [.int r1, .int x6] σ [(q2, 64, a2), (q3, 64, a3)] 0
  refine LR.icmp_ge (pc := 23) (tgt := 93) dL_read_23 (by decide) (fun c2 => ?_) (fun c2 => ?_)
  · replace h := ite_t c2 h
    refine LR.iload (pc := 93) (j := 4) dL_read_93 rfl ?_
    refine LR.bipush (pc := 95) (v := 64) dL_read_95 (by decide) ?_
    refine LR.icmp_ge (pc := 97) (tgt := 109) dL_read_97 (by decide) (fun c3 => ?_) (fun c3 => ?_)
    · replace h := ite_t c3 h
      refine LR.aload_n (pc := 109) (j := 3) dL_read_109 rfl rfl ?_
      refine LR.iload (pc := 110) (j := 4) dL_read_110 rfl ?_
      refine LR.bipush (pc := 112) (v := 64) dL_read_112 (by decide) ?_
      refine LR.isub (pc := 114) dL_read_114 ?_
      refine LR.iload (pc := 115) (j := 5) dL_read_115 rfl ?_
      obtain ⟨c4, h⟩ := gn_some h
      obtain ⟨b5, e5, h⟩ := bd_some h
      replace e5 := Option.some.inj e5
      refine LR.iastore (pc := 117) (j := 1) (as2 := [(q2, 64, a2), (q3, 64, b5)]) dL_read_117 rfl c4 (by subst e5; rfl) ?_
      exact LR.pick [0, 1, 2, 3, 4] rfl (G_read_118 a1 k3 a2 b5 x4 σ hk3 r h)
    · replace h := ite_f c3 h
      refine LR.aload_n (pc := 100) (j := 2) dL_read_100 rfl rfl ?_
      refine LR.iload (pc := 101) (j := 4) dL_read_101 rfl ?_
      refine LR.iload (pc := 103) (j := 5) dL_read_103 rfl ?_
      obtain ⟨c6, h⟩ := gn_some h
      obtain ⟨b7, e7, h⟩ := bd_some h
      replace e7 := Option.some.inj e7
      refine LR.iastore (pc := 105) (j := 0) (as2 := [(q2, 64, b7), (q3, 64, a3)]) dL_read_105 rfl c6 (by subst e7; rfl) ?_
      refine LR.goto (pc := 106) (tgt := 118) dL_read_106 (by decide) ?_
      exact LR.pick [0, 1, 2, 3, 4] rfl (G_read_118 a1 k3 b7 a3 x4 σ hk3 r h)
  · replace h := ite_f c2 h
    refine LR.aload_n (pc := 26) (j := 0) dL_read_26 rfl rfl ?_
    refine LR.iload (pc := 27) (j := 6) dL_read_27 rfl ?_
    refine LR.iload (pc := 29) (j := 4) dL_read_29 rfl ?_
    obtain ⟨r8, h8, h⟩ := bd_some h
    refine LR.callV (pc := 31) (As := [.int x6, .int x4]) (st := []) (ci := 8) dL_read_31 ⟨cd_X8_choice, im_X8_choice, se_X8_choice, ini_X8⟩ ml_L_40 (A8_choice x6 x4 σ _ h8) rfl rfl ⟨rfl, pd_X8_choice⟩ ⟨Nat.le_of_ble_eq_true rfl, Nat.le_of_ble_eq_true rfl⟩ ⟨rfl, rfl⟩ rfl rfl rfl (Nat.le_of_ble_eq_true rfl) ?_
    refine LR.istore (pc := 34) (L2 := [(7, .int (r8.1)), (0, .ref (ad 0)), (1, .ref q1), (2, .ref q2), (3, .ref q3), (4, .int x4), (5, .int x5), (6, .int x6)]) dL_read_34 (by decide) rfl ?_
    refine LR.iload (pc := 36) (j := 0) dL_read_36 rfl ?_
    refine LR.bipush (pc := 38) (v := (-9)) dL_read_38 (by decide) ?_
    refine LR.icmp_eq (pc := 40) (tgt := 66) dL_read_40 (by decide) (fun c9 => ?_) (fun c9 => ?_)
    · replace h := ite_t c9 h
      exact LR.pick [1, 2, 3, 4, 5, 6, 7, 0] rfl (G_read_66 a1 k3 k17 a2 a3 x4 x5 x6 (r8.1) (r8.2) hk3 hk17 r h)
    · replace h := ite_f c9 h
      refine LR.iload (pc := 43) (j := 0) dL_read_43 rfl ?_
      refine LR.if_lt (pc := 45) (tgt := 64) dL_read_45 (by decide) (fun c10 => ?_) (fun c10 => ?_)
      · replace h := ite_t c10 h
        refine LR.iconst (pc := 64) (v := 0) dL_read_64 (by decide) ?_
        refine LR.sub (as2 := [(q2, 64, a2), (q3, 64, a3)]) [0, 1] rfl rfl ?_
        exact LR.fin ⟨Nat.le_of_ble_eq_true rfl, Or.inl ⟨_, rfl, dL_read_65, Or.inr ⟨rfl, Or.inl rfl⟩, (by have hh := Option.some.inj h; subst hh; exact ⟨rfl, rfl, rfl⟩)⟩⟩
      · replace h := ite_f c10 h
        refine LR.iload (pc := 48) (j := 0) dL_read_48 rfl ?_
        refine LR.aload_n (pc := 50) (j := 2) dL_read_50 rfl rfl ?_
        refine LR.bipush (pc := 51) (v := 9) dL_read_51 (by decide) ?_
        refine LR.aload_n (pc := 53) (j := 2) dL_read_53 rfl rfl ?_
        refine LR.iload (pc := 54) (j := 7) dL_read_54 rfl ?_
        obtain ⟨r11, h11, h⟩ := bd_some h
        refine LR.callS0 (pc := 56) (As := [.ref q1, .int x6]) (st := [.int 9, .ref q1, .int (r8.1)]) (as2 := []) (asR := [(q2, 64, a2), (q3, 64, a3)]) (ro2 := [(q1, 44, a1)]) (mg := 0) (FIN := (FI (r8.2) r11)) [] [0, 1] dL_read_56 ⟨cd_L_who, sm_L_who, ini_L⟩ ml_L_33 (G_who a1 x6 r11 h11) ⟨rfl, pd_L_who⟩ ⟨Nat.le_of_ble_eq_true rfl, Nat.le_of_ble_eq_true rfl⟩ ⟨rfl, rfl⟩ rfl rfl rfl rfl rfl (by decide) (Or.inl ⟨[0], rfl⟩) rfl (Nat.le_of_ble_eq_true rfl) (fun v9 σ9 as9 hF9 => ?_)
        obtain ⟨rfl, e9, rfl⟩ := hF9; replace e9 := e9.symm; subst e9
        show LR l cL_read 8 (some .boolean) (wsU yL_read cL_read 8 (some .boolean)) rmL_read 0 0 ad [(q1, 44, a1)] (RetE cL_read (some .boolean) 0 (FW q2 64 q3 64 r)) 59 [(7, .int (r8.1)), (0, .ref (ad 0)), (1, .ref q1), (2, .ref q2), (3, .ref q3), (4, .int x4), (5, .int x5), (6, .int x6)] [.int r11, .int 9, .ref q1, .int (r8.1)] (r8.2) [(q2, 64, a2), (q3, 64, a3)] 0
        refine LR.iadd (pc := 59) dL_read_59 ?_
        obtain ⟨c12, h⟩ := gn_some h
        refine LR.ialoadR (pc := 60) (j := 0) dL_read_60 rfl c12 ?_
        refine LR.icmp_lt (pc := 61) (tgt := 66) dL_read_61 (by decide) (fun c13 => ?_) (fun c13 => ?_)
        · replace h := ite_t c13 h
          exact LR.pick [1, 2, 3, 4, 5, 6, 7, 0] rfl (G_read_66 a1 k3 k17 a2 a3 x4 x5 x6 (r8.1) (r8.2) hk3 hk17 r h)
        · replace h := ite_f c13 h
          refine LR.iconst (pc := 64) (v := 0) dL_read_64 (by decide) ?_
          refine LR.sub (as2 := [(q2, 64, a2), (q3, 64, a3)]) [0, 1] rfl rfl ?_
          exact LR.fin ⟨Nat.le_of_ble_eq_true rfl, Or.inl ⟨_, rfl, dL_read_65, Or.inr ⟨rfl, Or.inl rfl⟩, (by have hh := Option.some.inj h; subst hh; exact ⟨rfl, rfl, rfl⟩)⟩⟩
theorem G_read_17 {l : Launch} {ad : Nat → Nat} {q1 : Nat} {q2 : Nat} {q3 : Nat} (a1 : Nat → Int32) (k3 : (Nat → Int32) × (Nat → Int32) × Int32 × HS → Option (Int32 × HS × (Nat → Int32) × (Nat → Int32))) (a2 : Nat → Int32) (a3 : Nat → Int32) (x4 : Int32) (hk3 : ∀ (p : (Nat → Int32) × (Nat → Int32) × Int32 × HS) (r : Int32 × HS × (Nat → Int32) × (Nat → Int32)), k3 p = some r → LR l cL_read 8 (some .boolean) (wsU yL_read cL_read 8 (some .boolean)) rmL_read 0 0 ad [(q1, 44, a1)] (RetE cL_read (some .boolean) 0 (FW q2 64 q3 64 r)) 3 [(0, .ref (ad 0)), (1, .ref q1), (2, .ref q2), (3, .ref q3), (4, .int (p.2.2.1))] [] (p.2.2.2) [(q2, 64, p.1), (q3, 64, p.2.1)] 0) (p : Int32 × Int32 × HS) (r : Int32 × HS × (Nat → Int32) × (Nat → Int32)) (h : g_read_17 a1 k3 a2 a3 x4 p = some r) : LR l cL_read 8 (some .boolean) (wsU yL_read cL_read 8 (some .boolean)) rmL_read 0 0 ad [(q1, 44, a1)] (RetE cL_read (some .boolean) 0 (FW q2 64 q3 64 r)) 17 [(0, .ref (ad 0)), (1, .ref q1), (2, .ref q2), (3, .ref q3), (4, .int x4), (5, .int (p.1)), (6, .int (p.2.1))] [] (p.2.2) [(q2, 64, a2), (q3, 64, a3)] 0 := by
  unfold g_read_17 at h
  exact wloop_run (body := fun k17 p => g_read_17_b a1 k3 k17 a2 a3 x4 p.1 p.2.1 p.2.2) (Q := (fun p r => LR l cL_read 8 (some .boolean) (wsU yL_read cL_read 8 (some .boolean)) rmL_read 0 0 ad [(q1, 44, a1)] (RetE cL_read (some .boolean) 0 (FW q2 64 q3 64 r)) 17 [(0, .ref (ad 0)), (1, .ref q1), (2, .ref q2), (3, .ref q3), (4, .int x4), (5, .int (p.1)), (6, .int (p.2.1))] [] (p.2.2) [(q2, 64, a2), (q3, 64, a3)] 0)) (fun k17 hk17 p r h => G_read_17_b a1 k3 k17 a2 a3 x4 p.1 p.2.1 p.2.2 hk3 hk17 r h) fuelN p r h
set_option maxHeartbeats 4000000 in
set_option maxRecDepth 100000 in
theorem G_read_3_b {l : Launch} {ad : Nat → Nat} {q1 : Nat} {q2 : Nat} {q3 : Nat} (a1 : Nat → Int32) (k3 : (Nat → Int32) × (Nat → Int32) × Int32 × HS → Option (Int32 × HS × (Nat → Int32) × (Nat → Int32))) (a2 : Nat → Int32) (a3 : Nat → Int32) (x4 : Int32) (σ : HS) (hk3 : ∀ (p : (Nat → Int32) × (Nat → Int32) × Int32 × HS) (r : Int32 × HS × (Nat → Int32) × (Nat → Int32)), k3 p = some r → LR l cL_read 8 (some .boolean) (wsU yL_read cL_read 8 (some .boolean)) rmL_read 0 0 ad [(q1, 44, a1)] (RetE cL_read (some .boolean) 0 (FW q2 64 q3 64 r)) 3 [(0, .ref (ad 0)), (1, .ref q1), (2, .ref q2), (3, .ref q3), (4, .int (p.2.2.1))] [] (p.2.2.2) [(q2, 64, p.1), (q3, 64, p.2.1)] 0) (r : Int32 × HS × (Nat → Int32) × (Nat → Int32)) (h : g_read_3_b a1 k3 a2 a3 x4 σ = some r) : LR l cL_read 8 (some .boolean) (wsU yL_read cL_read 8 (some .boolean)) rmL_read 0 0 ad [(q1, 44, a1)] (RetE cL_read (some .boolean) 0 (FW q2 64 q3 64 r)) 3 [(0, .ref (ad 0)), (1, .ref q1), (2, .ref q2), (3, .ref q3), (4, .int x4)] [] σ [(q2, 64, a2), (q3, 64, a3)] 0 := by
  unfold g_read_3_b at h
  refine LR.iload (pc := 3) (j := 4) dL_read_3 rfl ?_
  refine LR.aload_n (pc := 5) (j := 1) dL_read_5 rfl rfl ?_
  refine LR.iconst (pc := 6) (v := 1) dL_read_6 (by decide) ?_
  refine LR.ialoadR (pc := 7) (j := 0) dL_read_7 rfl (by decide) ?_
  refine LR.icmp_gt (pc := 8) (tgt := 124) dL_read_8 (by decide) (fun c1 => ?_) (fun c1 => ?_)
  · replace h := ite_t c1 h
    refine LR.iconst (pc := 124) (v := 1) dL_read_124 (by decide) ?_
    refine LR.sub (as2 := [(q2, 64, a2), (q3, 64, a3)]) [0, 1] rfl rfl ?_
    exact LR.fin ⟨Nat.le_of_ble_eq_true rfl, Or.inl ⟨_, rfl, dL_read_125, Or.inr ⟨rfl, Or.inr rfl⟩, (by have hh := Option.some.inj h; subst hh; exact ⟨rfl, rfl, rfl⟩)⟩⟩
  · replace h := ite_f c1 h
    refine LR.iconst (pc := 11) (v := 0) dL_read_11 (by decide) ?_
    refine LR.istore (pc := 12) (L2 := [(5, .int 0), (0, .ref (ad 0)), (1, .ref q1), (2, .ref q2), (3, .ref q3), (4, .int x4)]) dL_read_12 (by decide) rfl ?_
    refine LR.iconst (pc := 14) (v := 0) dL_read_14 (by decide) ?_
    refine LR.istore (pc := 15) (L2 := [(6, .int 0), (5, .int 0), (0, .ref (ad 0)), (1, .ref q1), (2, .ref q2), (3, .ref q3), (4, .int x4)]) dL_read_15 (by decide) rfl ?_
    exact LR.pick [2, 3, 4, 5, 6, 1, 0] rfl (G_read_17 a1 k3 a2 a3 x4 hk3 (0, 0, σ) r h)
theorem G_read_3 {l : Launch} {ad : Nat → Nat} {q1 : Nat} {q2 : Nat} {q3 : Nat} (a1 : Nat → Int32) (p : (Nat → Int32) × (Nat → Int32) × Int32 × HS) (r : Int32 × HS × (Nat → Int32) × (Nat → Int32)) (h : g_read_3 a1 p = some r) : LR l cL_read 8 (some .boolean) (wsU yL_read cL_read 8 (some .boolean)) rmL_read 0 0 ad [(q1, 44, a1)] (RetE cL_read (some .boolean) 0 (FW q2 64 q3 64 r)) 3 [(0, .ref (ad 0)), (1, .ref q1), (2, .ref q2), (3, .ref q3), (4, .int (p.2.2.1))] [] (p.2.2.2) [(q2, 64, p.1), (q3, 64, p.2.1)] 0 := by
  unfold g_read_3 at h
  exact wloop_run (body := fun k3 p => g_read_3_b a1 k3 p.1 p.2.1 p.2.2.1 p.2.2.2) (Q := (fun p r => LR l cL_read 8 (some .boolean) (wsU yL_read cL_read 8 (some .boolean)) rmL_read 0 0 ad [(q1, 44, a1)] (RetE cL_read (some .boolean) 0 (FW q2 64 q3 64 r)) 3 [(0, .ref (ad 0)), (1, .ref q1), (2, .ref q2), (3, .ref q3), (4, .int (p.2.2.1))] [] (p.2.2.2) [(q2, 64, p.1), (q3, 64, p.2.1)] 0)) (fun k3 hk3 p r h => G_read_3_b a1 k3 p.1 p.2.1 p.2.2.1 p.2.2.2 hk3 r h) fuelN p r h
set_option maxHeartbeats 4000000 in
set_option maxRecDepth 100000 in
theorem G_read {l : Launch} {ad : Nat → Nat} {q1 : Nat} {q2 : Nat} {q3 : Nat} (a1 : Nat → Int32) (a2 : Nat → Int32) (a3 : Nat → Int32) (σ : HS) (r : Int32 × HS × (Nat → Int32) × (Nat → Int32)) (h : g_read a1 a2 a3 σ = some r) : LM l yL_read (wsU yL_read cL_read 8 (some .boolean)) rmL_read 0 [.ref (ad 0), .ref q1, .ref q2, .ref q3] ad σ [(q2, 64, a2), (q3, 64, a3)] [(q1, 44, a1)] (FW q2 64 q3 64 r) := by
  refine LM.of (L := [(0, .ref (ad 0)), (1, .ref q1), (2, .ref q2), (3, .ref q3)]) pn_L_read rfl (Nat.le_of_ble_eq_true rfl) rfl ?_
  unfold g_read at h
  refine LR.iconst (pc := 0) (v := 0) dL_read_0 (by decide) ?_
  refine LR.istore (pc := 1) (L2 := [(4, .int 0), (0, .ref (ad 0)), (1, .ref q1), (2, .ref q2), (3, .ref q3)]) dL_read_1 (by decide) rfl ?_
  exact LR.pick [1, 2, 3, 4, 0] rfl (G_read_3 a1 (a2, a3, 0, σ) r h)
noncomputable def g_lay_503 (sL : Nat) (a3 : Nat → Int32) (k157 : (Nat → Int32) × (Nat → Int32) × Int32 × Int32 × Int32 × HS → Option (Int32 × HS × (Nat → Int32) × (Nat → Int32))) (k303 : (Nat → Int32) × Int32 × Int32 × Int32 × HS → Option (Int32 × HS × (Nat → Int32) × (Nat → Int32))) (a1 : Nat → Int32) (a2 : Nat → Int32) (x4 : Int32) (x6 : Int32) (x9 : Int32) (x10 : Int32) (x12 : Int32) (z0 : Int32) (σ : HS) : Option (Int32 × HS × (Nat → Int32) × (Nat → Int32)) :=
  k303 (a2, z0, (x9 + 5), (x12 + 1), σ)
noncomputable def g_lay_502 (sL : Nat) (a3 : Nat → Int32) (k157 : (Nat → Int32) × (Nat → Int32) × Int32 × Int32 × Int32 × HS → Option (Int32 × HS × (Nat → Int32) × (Nat → Int32))) (k303 : (Nat → Int32) × Int32 × Int32 × Int32 × HS → Option (Int32 × HS × (Nat → Int32) × (Nat → Int32))) (a1 : Nat → Int32) (a2 : Nat → Int32) (x4 : Int32) (x6 : Int32) (x9 : Int32) (x10 : Int32) (x12 : Int32) (σ : HS) : Option (Int32 × HS × (Nat → Int32) × (Nat → Int32)) :=
  g_lay_503 sL a3 k157 k303 a1 a2 x4 x6 x9 x10 x12 0 σ
noncomputable def g_lay_303_b (sL : Nat) (a3 : Nat → Int32) (k157 : (Nat → Int32) × (Nat → Int32) × Int32 × Int32 × Int32 × HS → Option (Int32 × HS × (Nat → Int32) × (Nat → Int32))) (k303 : (Nat → Int32) × Int32 × Int32 × Int32 × HS → Option (Int32 × HS × (Nat → Int32) × (Nat → Int32))) (a1 : Nat → Int32) (a2 : Nat → Int32) (x4 : Int32) (x6 : Int32) (x8 : Int32) (x9 : Int32) (x10 : Int32) (x12 : Int32) (σ : HS) : Option (Int32 × HS × (Nat → Int32) × (Nat → Int32)) :=
  if ((9 + x10) : Int32) < 0 ∨ 44 ≤ ((9 + x10) : Int32).toNatClampNeg then none else
  if ((a1 ((9 + x10) : Int32).toNatClampNeg) : Int32) ≤ x12 then
    k157 (a1, a2, x8, x9, (x10 + 1), σ)
  else
    bd (g_cell sL a3 ((x4 + 6) + x10)) fun r3 =>
    bd (g_low (r3 >>> ((9 * x12) &&& 31)) x6) fun r4 =>
    if (((9 * x10) + (3 * x12)) : Int32) < 0 ∨ 45 ≤ (((9 * x10) + (3 * x12)) : Int32).toNatClampNeg then none else
    bd (some (upd a2 (((9 * x10) + (3 * x12)) : Int32).toNatClampNeg (1 + r4))) fun b6 =>
    bd (g_low ((r3 >>> ((9 * x12) &&& 31)) >>> (3 &&& 31)) 10) fun r7 =>
    if ((((9 * x10) + (3 * x12)) + 1) : Int32) < 0 ∨ 45 ≤ ((((9 * x10) + (3 * x12)) + 1) : Int32).toNatClampNeg then none else
    bd (some (upd b6 ((((9 * x10) + (3 * x12)) + 1) : Int32).toNatClampNeg r7)) fun b9 =>
    bd (g_low ((r3 >>> ((9 * x12) &&& 31)) >>> (5 &&& 31)) 10) fun r10 =>
    if ((((9 * x10) + (3 * x12)) + 2) : Int32) < 0 ∨ 45 ≤ ((((9 * x10) + (3 * x12)) + 2) : Int32).toNatClampNeg then none else
    bd (some (upd b9 ((((9 * x10) + (3 * x12)) + 2) : Int32).toNatClampNeg r10)) fun b12 =>
    if (x8 : Int32) = 0 then
      g_lay_502 sL a3 k157 k303 a1 b12 x4 x6 x9 x10 x12 σ
    else
      bd (f8_put 0 x9 119 σ) fun r14 =>
      if (r14.1 : Int32) = 1 then
        if (((9 * x10) + (3 * x12)) : Int32) < 0 ∨ 45 ≤ (((9 * x10) + (3 * x12)) : Int32).toNatClampNeg then none else
        bd (f8_put 0 (x9 + 1) (48 + ((b12 (((9 * x10) + (3 * x12)) : Int32).toNatClampNeg) / 10)) (r14.2)) fun r17 =>
        if (r17.1 : Int32) = 1 then
          if (((9 * x10) + (3 * x12)) : Int32) < 0 ∨ 45 ≤ (((9 * x10) + (3 * x12)) : Int32).toNatClampNeg then none else
          bd (f8_put 0 (x9 + 2) (48 + ((b12 (((9 * x10) + (3 * x12)) : Int32).toNatClampNeg) - (b12 (((9 * x10) + (3 * x12)) : Int32).toNatClampNeg) / 10 * 10)) (r17.2)) fun r20 =>
          if (r20.1 : Int32) = 1 then
            if ((((9 * x10) + (3 * x12)) + 1) : Int32) < 0 ∨ 45 ≤ ((((9 * x10) + (3 * x12)) + 1) : Int32).toNatClampNeg then none else
            bd (f8_put 0 (x9 + 3) (48 + (b12 ((((9 * x10) + (3 * x12)) + 1) : Int32).toNatClampNeg)) (r20.2)) fun r23 =>
            if (r23.1 : Int32) = 1 then
              if ((((9 * x10) + (3 * x12)) + 2) : Int32) < 0 ∨ 45 ≤ ((((9 * x10) + (3 * x12)) + 2) : Int32).toNatClampNeg then none else
              bd (f8_put 0 (x9 + 4) (48 + (b12 ((((9 * x10) + (3 * x12)) + 2) : Int32).toNatClampNeg)) (r23.2)) fun r26 =>
              if (r26.1 : Int32) = 1 then
                g_lay_503 sL a3 k157 k303 a1 b12 x4 x6 x9 x10 x12 1 (r26.2)
              else
                g_lay_502 sL a3 k157 k303 a1 b12 x4 x6 x9 x10 x12 (r26.2)
            else
              g_lay_502 sL a3 k157 k303 a1 b12 x4 x6 x9 x10 x12 (r23.2)
          else
            g_lay_502 sL a3 k157 k303 a1 b12 x4 x6 x9 x10 x12 (r20.2)
        else
          g_lay_502 sL a3 k157 k303 a1 b12 x4 x6 x9 x10 x12 (r17.2)
      else
        g_lay_502 sL a3 k157 k303 a1 b12 x4 x6 x9 x10 x12 (r14.2)
noncomputable def g_lay_303 (sL : Nat) (a3 : Nat → Int32) (k157 : (Nat → Int32) × (Nat → Int32) × Int32 × Int32 × Int32 × HS → Option (Int32 × HS × (Nat → Int32) × (Nat → Int32))) (a1 : Nat → Int32) (x4 : Int32) (x6 : Int32) (x10 : Int32) (p : (Nat → Int32) × Int32 × Int32 × Int32 × HS) : Option (Int32 × HS × (Nat → Int32) × (Nat → Int32)) :=
  wloop (fun k303 p => g_lay_303_b sL a3 k157 k303 a1 p.1 x4 x6 p.2.1 p.2.2.1 x10 p.2.2.2.1 p.2.2.2.2) fuelN p
noncomputable def g_lay_295 (sL : Nat) (a3 : Nat → Int32) (k157 : (Nat → Int32) × (Nat → Int32) × Int32 × Int32 × Int32 × HS → Option (Int32 × HS × (Nat → Int32) × (Nat → Int32))) (a1 : Nat → Int32) (a2 : Nat → Int32) (x4 : Int32) (x6 : Int32) (x9 : Int32) (x10 : Int32) (z0 : Int32) (σ : HS) : Option (Int32 × HS × (Nat → Int32) × (Nat → Int32)) :=
  g_lay_303 sL a3 k157 a1 x4 x6 x10 (a2, z0, (x9 + 2), 0, σ)
noncomputable def g_lay_294 (sL : Nat) (a3 : Nat → Int32) (k157 : (Nat → Int32) × (Nat → Int32) × Int32 × Int32 × Int32 × HS → Option (Int32 × HS × (Nat → Int32) × (Nat → Int32))) (a1 : Nat → Int32) (a2 : Nat → Int32) (x4 : Int32) (x6 : Int32) (x9 : Int32) (x10 : Int32) (σ : HS) : Option (Int32 × HS × (Nat → Int32) × (Nat → Int32)) :=
  g_lay_295 sL a3 k157 a1 a2 x4 x6 x9 x10 0 σ
noncomputable def g_lay_283 (sL : Nat) (a3 : Nat → Int32) (k157 : (Nat → Int32) × (Nat → Int32) × Int32 × Int32 × Int32 × HS → Option (Int32 × HS × (Nat → Int32) × (Nat → Int32))) (a1 : Nat → Int32) (a2 : Nat → Int32) (x4 : Int32) (x6 : Int32) (x9 : Int32) (x10 : Int32) (z0 : Int32) (z1 : Int32) (z2 : Int32) (σ : HS) : Option (Int32 × HS × (Nat → Int32) × (Nat → Int32)) :=
  bd (f8_put z2 z1 z0 σ) fun r1 =>
  if (r1.1 : Int32) = 1 then
    g_lay_295 sL a3 k157 a1 a2 x4 x6 x9 x10 1 (r1.2)
  else
    g_lay_294 sL a3 k157 a1 a2 x4 x6 x9 x10 (r1.2)
noncomputable def g_lay_201 (sL : Nat) (a3 : Nat → Int32) (k157 : (Nat → Int32) × (Nat → Int32) × Int32 × Int32 × Int32 × HS → Option (Int32 × HS × (Nat → Int32) × (Nat → Int32))) (a1 : Nat → Int32) (a2 : Nat → Int32) (x4 : Int32) (x6 : Int32) (x8 : Int32) (x9 : Int32) (x10 : Int32) (x11 : Int32) (z0 : Int32) (z1 : Int32) (σ : HS) : Option (Int32 × HS × (Nat → Int32) × (Nat → Int32)) :=
  if (z1 : Int32) < 0 ∨ 44 ≤ (z1 : Int32).toNatClampNeg then none else
  bd (some (upd a1 (z1 : Int32).toNatClampNeg z0)) fun b2 =>
  bd (g_low (x11 >>> (3 &&& 31)) 3) fun r3 =>
  if ((9 + x10) : Int32) < 0 ∨ 44 ≤ ((9 + x10) : Int32).toNatClampNeg then none else
  bd (some (upd b2 ((9 + x10) : Int32).toNatClampNeg (1 + r3))) fun b5 =>
  if ((14 + x10) : Int32) < 0 ∨ 44 ≤ ((14 + x10) : Int32).toNatClampNeg then none else
  bd (some (upd b5 ((14 + x10) : Int32).toNatClampNeg x10)) fun b7 =>
  if (x8 : Int32) = 0 then
    g_lay_294 sL a3 k157 b7 a2 x4 x6 x9 x10 σ
  else
    bd (f8_put 0 x9 59 σ) fun r9 =>
    if (r9.1 : Int32) = 1 then
      if ((4 + x10) : Int32) < 0 ∨ 44 ≤ ((4 + x10) : Int32).toNatClampNeg then none else
      if ((b7 ((4 + x10) : Int32).toNatClampNeg) : Int32) = 0 then
        g_lay_283 sL a3 k157 b7 a2 x4 x6 x9 x10 112 (x9 + 1) 0 (r9.2)
      else
        if ((4 + x10) : Int32) < 0 ∨ 44 ≤ ((4 + x10) : Int32).toNatClampNeg then none else
        if ((b7 ((4 + x10) : Int32).toNatClampNeg) : Int32) = 1 then
          g_lay_283 sL a3 k157 b7 a2 x4 x6 x9 x10 116 (x9 + 1) 0 (r9.2)
        else
          g_lay_283 sL a3 k157 b7 a2 x4 x6 x9 x10 111 (x9 + 1) 0 (r9.2)
    else
      g_lay_294 sL a3 k157 b7 a2 x4 x6 x9 x10 (r9.2)
noncomputable def g_lay_157_b (sL : Nat) (a3 : Nat → Int32) (k157 : (Nat → Int32) × (Nat → Int32) × Int32 × Int32 × Int32 × HS → Option (Int32 × HS × (Nat → Int32) × (Nat → Int32))) (a1 : Nat → Int32) (a2 : Nat → Int32) (x4 : Int32) (x6 : Int32) (x8 : Int32) (x9 : Int32) (x10 : Int32) (σ : HS) : Option (Int32 × HS × (Nat → Int32) × (Nat → Int32)) :=
  if ((a1 (0 : Int32).toNatClampNeg) : Int32) ≤ x10 then
    bd (some (upd a1 (40 : Int32).toNatClampNeg x9)) fun b2 =>
    if (x8 : Int32) = 0 then
      some ((-999), σ, b2, a2)
    else
      bd (f8_council 0 0 0 x9 σ) fun r4 =>
      some (r4.1, r4.2, b2, a2)
  else
    bd (g_cell sL a3 ((x4 + 1) + x10)) fun r5 =>
    if ((r5 &&& 7) : Int32) = 7 then
      g_lay_201 sL a3 k157 a1 a2 x4 x6 x8 x9 x10 r5 2 (4 + x10) σ
    else
      g_lay_201 sL a3 k157 a1 a2 x4 x6 x8 x9 x10 r5 (r5 &&& 1) (4 + x10) σ
noncomputable def g_lay_157 (sL : Nat) (a3 : Nat → Int32) (x4 : Int32) (x6 : Int32) (p : (Nat → Int32) × (Nat → Int32) × Int32 × Int32 × Int32 × HS) : Option (Int32 × HS × (Nat → Int32) × (Nat → Int32)) :=
  wloop (fun k157 p => g_lay_157_b sL a3 k157 p.1 p.2.1 x4 x6 p.2.2.1 p.2.2.2.1 p.2.2.2.2.1 p.2.2.2.2.2) fuelN p
noncomputable def g_lay_148 (sL : Nat) (a3 : Nat → Int32) (a1 : Nat → Int32) (a2 : Nat → Int32) (x4 : Int32) (x6 : Int32) (z0 : Int32) (σ : HS) : Option (Int32 × HS × (Nat → Int32) × (Nat → Int32)) :=
  g_lay_157 sL a3 x4 x6 (a1, a2, z0, 6, 0, σ)
noncomputable def g_lay_147 (sL : Nat) (a3 : Nat → Int32) (a1 : Nat → Int32) (a2 : Nat → Int32) (x4 : Int32) (x6 : Int32) (σ : HS) : Option (Int32 × HS × (Nat → Int32) × (Nat → Int32)) :=
  g_lay_148 sL a3 a1 a2 x4 x6 0 σ
noncomputable def g_lay (sL : Nat) (a1 : Nat → Int32) (a2 : Nat → Int32) (a3 : Nat → Int32) (x4 : Int32) (x5 : Int32) (x6 : Int32) (σ : HS) : Option (Int32 × HS × (Nat → Int32) × (Nat → Int32)) :=
  bd (g_cell sL a3 x4) fun r1 =>
  bd (g_low r1 (x5 - 1)) fun r2 =>
  bd (some (upd a1 (0 : Int32).toNatClampNeg (2 + r2))) fun b3 =>
  bd (g_low (r1 >>> (3 &&& 31)) 99) fun r4 =>
  bd (some (upd b3 (1 : Int32).toNatClampNeg (1 + r4))) fun b5 =>
  bd (g_low (r1 >>> (10 &&& 31)) 10) fun r6 =>
  bd (some (upd b5 (2 : Int32).toNatClampNeg r6)) fun b7 =>
  bd (some (upd b7 (3 : Int32).toNatClampNeg 0)) fun b8 =>
  bd (f8_put 0 0 106 σ) fun r9 =>
  if (r9.1 : Int32) = 1 then
    bd (f8_put 0 1 (48 + ((b8 (1 : Int32).toNatClampNeg) / 10)) (r9.2)) fun r11 =>
    if (r11.1 : Int32) = 1 then
      bd (f8_put 0 2 (48 + ((b8 (1 : Int32).toNatClampNeg) - (b8 (1 : Int32).toNatClampNeg) / 10 * 10)) (r11.2)) fun r13 =>
      if (r13.1 : Int32) = 1 then
        bd (f8_put 0 3 59 (r13.2)) fun r15 =>
        if (r15.1 : Int32) = 1 then
          bd (f8_put 0 4 108 (r15.2)) fun r17 =>
          if (r17.1 : Int32) = 1 then
            bd (f8_put 0 5 (48 + (b8 (2 : Int32).toNatClampNeg)) (r17.2)) fun r19 =>
            if (r19.1 : Int32) = 1 then
              g_lay_148 sL a3 b8 a2 x4 x6 1 (r19.2)
            else
              g_lay_147 sL a3 b8 a2 x4 x6 (r19.2)
          else
            g_lay_147 sL a3 b8 a2 x4 x6 (r17.2)
        else
          g_lay_147 sL a3 b8 a2 x4 x6 (r15.2)
      else
        g_lay_147 sL a3 b8 a2 x4 x6 (r13.2)
    else
      g_lay_147 sL a3 b8 a2 x4 x6 (r11.2)
  else
    g_lay_147 sL a3 b8 a2 x4 x6 (r9.2)
set_option maxHeartbeats 4000000 in
set_option maxRecDepth 100000 in
theorem G_lay_503 {l : Launch} {ad : Nat → Nat} {q3 : Nat} {q1 : Nat} {q2 : Nat} (sL : Nat) (a3 : Nat → Int32) (k157 : (Nat → Int32) × (Nat → Int32) × Int32 × Int32 × Int32 × HS → Option (Int32 × HS × (Nat → Int32) × (Nat → Int32))) (k303 : (Nat → Int32) × Int32 × Int32 × Int32 × HS → Option (Int32 × HS × (Nat → Int32) × (Nat → Int32))) (a1 : Nat → Int32) (a2 : Nat → Int32) (x4 : Int32) (x6 : Int32) (x9 : Int32) (x10 : Int32) (x12 : Int32) (z0 : Int32) (σ : HS) (hk157 : ∀ (p : (Nat → Int32) × (Nat → Int32) × Int32 × Int32 × Int32 × HS) (r : Int32 × HS × (Nat → Int32) × (Nat → Int32)), k157 p = some r → LR l cL_lay 15 (some .int) (wsU yL_lay cL_lay 15 (some .int)) rmL_lay 0 0 ad [(q3, sL, a3)] (RetE cL_lay (some .int) 0 (FW q1 44 q2 45 r)) 157 [(0, .ref (ad 0)), (1, .ref q1), (2, .ref q2), (3, .ref q3), (4, .int x4), (6, .int x6), (8, .int (p.2.2.1)), (9, .int (p.2.2.2.1)), (10, .int (p.2.2.2.2.1))] [] (p.2.2.2.2.2) [(q1, 44, p.1), (q2, 45, p.2.1)] 0) (hk303 : ∀ (p : (Nat → Int32) × Int32 × Int32 × Int32 × HS) (r : Int32 × HS × (Nat → Int32) × (Nat → Int32)), k303 p = some r → LR l cL_lay 15 (some .int) (wsU yL_lay cL_lay 15 (some .int)) rmL_lay 0 0 ad [(q3, sL, a3)] (RetE cL_lay (some .int) 0 (FW q1 44 q2 45 r)) 303 [(0, .ref (ad 0)), (1, .ref q1), (2, .ref q2), (3, .ref q3), (4, .int x4), (6, .int x6), (8, .int (p.2.1)), (9, .int (p.2.2.1)), (10, .int x10), (12, .int (p.2.2.2.1))] [] (p.2.2.2.2) [(q1, 44, a1), (q2, 45, p.1)] 0) (r : Int32 × HS × (Nat → Int32) × (Nat → Int32)) (h : g_lay_503 sL a3 k157 k303 a1 a2 x4 x6 x9 x10 x12 z0 σ = some r) : LR l cL_lay 15 (some .int) (wsU yL_lay cL_lay 15 (some .int)) rmL_lay 0 0 ad [(q3, sL, a3)] (RetE cL_lay (some .int) 0 (FW q1 44 q2 45 r)) 503 [(0, .ref (ad 0)), (1, .ref q1), (2, .ref q2), (3, .ref q3), (4, .int x4), (6, .int x6), (9, .int x9), (10, .int x10), (12, .int x12)] [.int z0] σ [(q1, 44, a1), (q2, 45, a2)] 0 := by
  unfold g_lay_503 at h
  refine LR.istore (pc := 503) (L2 := [(8, .int z0), (0, .ref (ad 0)), (1, .ref q1), (2, .ref q2), (3, .ref q3), (4, .int x4), (6, .int x6), (9, .int x9), (10, .int x10), (12, .int x12)]) dL_lay_503 (by decide) rfl ?_
  refine LR.iinc (pc := 505) (j := 7) (v := (x9 + 5)) (L2 := [(9, .int (x9 + 5)), (8, .int z0), (0, .ref (ad 0)), (1, .ref q1), (2, .ref q2), (3, .ref q3), (4, .int x4), (6, .int x6), (10, .int x10), (12, .int x12)]) dL_lay_505 rfl rfl (by decide) rfl ?_
  refine LR.iinc (pc := 508) (j := 9) (v := (x12 + 1)) (L2 := [(12, .int (x12 + 1)), (9, .int (x9 + 5)), (8, .int z0), (0, .ref (ad 0)), (1, .ref q1), (2, .ref q2), (3, .ref q3), (4, .int x4), (6, .int x6), (10, .int x10)]) dL_lay_508 rfl rfl (by decide) rfl ?_
  refine LR.goto (pc := 511) (tgt := 303) dL_lay_511 (by decide) ?_
  exact LR.pick [3, 4, 5, 6, 7, 8, 2, 1, 9, 0] rfl (hk303 (a2, z0, (x9 + 5), (x12 + 1), σ) r h)
set_option maxHeartbeats 4000000 in
set_option maxRecDepth 100000 in
theorem G_lay_502 {l : Launch} {ad : Nat → Nat} {q3 : Nat} {q1 : Nat} {q2 : Nat} (sL : Nat) (a3 : Nat → Int32) (k157 : (Nat → Int32) × (Nat → Int32) × Int32 × Int32 × Int32 × HS → Option (Int32 × HS × (Nat → Int32) × (Nat → Int32))) (k303 : (Nat → Int32) × Int32 × Int32 × Int32 × HS → Option (Int32 × HS × (Nat → Int32) × (Nat → Int32))) (a1 : Nat → Int32) (a2 : Nat → Int32) (x4 : Int32) (x6 : Int32) (x9 : Int32) (x10 : Int32) (x12 : Int32) (σ : HS) (hk157 : ∀ (p : (Nat → Int32) × (Nat → Int32) × Int32 × Int32 × Int32 × HS) (r : Int32 × HS × (Nat → Int32) × (Nat → Int32)), k157 p = some r → LR l cL_lay 15 (some .int) (wsU yL_lay cL_lay 15 (some .int)) rmL_lay 0 0 ad [(q3, sL, a3)] (RetE cL_lay (some .int) 0 (FW q1 44 q2 45 r)) 157 [(0, .ref (ad 0)), (1, .ref q1), (2, .ref q2), (3, .ref q3), (4, .int x4), (6, .int x6), (8, .int (p.2.2.1)), (9, .int (p.2.2.2.1)), (10, .int (p.2.2.2.2.1))] [] (p.2.2.2.2.2) [(q1, 44, p.1), (q2, 45, p.2.1)] 0) (hk303 : ∀ (p : (Nat → Int32) × Int32 × Int32 × Int32 × HS) (r : Int32 × HS × (Nat → Int32) × (Nat → Int32)), k303 p = some r → LR l cL_lay 15 (some .int) (wsU yL_lay cL_lay 15 (some .int)) rmL_lay 0 0 ad [(q3, sL, a3)] (RetE cL_lay (some .int) 0 (FW q1 44 q2 45 r)) 303 [(0, .ref (ad 0)), (1, .ref q1), (2, .ref q2), (3, .ref q3), (4, .int x4), (6, .int x6), (8, .int (p.2.1)), (9, .int (p.2.2.1)), (10, .int x10), (12, .int (p.2.2.2.1))] [] (p.2.2.2.2) [(q1, 44, a1), (q2, 45, p.1)] 0) (r : Int32 × HS × (Nat → Int32) × (Nat → Int32)) (h : g_lay_502 sL a3 k157 k303 a1 a2 x4 x6 x9 x10 x12 σ = some r) : LR l cL_lay 15 (some .int) (wsU yL_lay cL_lay 15 (some .int)) rmL_lay 0 0 ad [(q3, sL, a3)] (RetE cL_lay (some .int) 0 (FW q1 44 q2 45 r)) 502 [(0, .ref (ad 0)), (1, .ref q1), (2, .ref q2), (3, .ref q3), (4, .int x4), (6, .int x6), (9, .int x9), (10, .int x10), (12, .int x12)] [] σ [(q1, 44, a1), (q2, 45, a2)] 0 := by
  unfold g_lay_502 at h
  refine LR.iconst (pc := 502) (v := 0) dL_lay_502 (by decide) ?_
  exact LR.pick [0, 1, 2, 3, 4, 5, 6, 7, 8] rfl (G_lay_503 sL a3 k157 k303 a1 a2 x4 x6 x9 x10 x12 0 σ hk157 hk303 r h)
set_option maxHeartbeats 4000000 in
set_option maxRecDepth 100000 in
theorem G_lay_303_b {l : Launch} {ad : Nat → Nat} {q3 : Nat} {q1 : Nat} {q2 : Nat} (sL : Nat) (a3 : Nat → Int32) (k157 : (Nat → Int32) × (Nat → Int32) × Int32 × Int32 × Int32 × HS → Option (Int32 × HS × (Nat → Int32) × (Nat → Int32))) (k303 : (Nat → Int32) × Int32 × Int32 × Int32 × HS → Option (Int32 × HS × (Nat → Int32) × (Nat → Int32))) (a1 : Nat → Int32) (a2 : Nat → Int32) (x4 : Int32) (x6 : Int32) (x8 : Int32) (x9 : Int32) (x10 : Int32) (x12 : Int32) (σ : HS) (hk157 : ∀ (p : (Nat → Int32) × (Nat → Int32) × Int32 × Int32 × Int32 × HS) (r : Int32 × HS × (Nat → Int32) × (Nat → Int32)), k157 p = some r → LR l cL_lay 15 (some .int) (wsU yL_lay cL_lay 15 (some .int)) rmL_lay 0 0 ad [(q3, sL, a3)] (RetE cL_lay (some .int) 0 (FW q1 44 q2 45 r)) 157 [(0, .ref (ad 0)), (1, .ref q1), (2, .ref q2), (3, .ref q3), (4, .int x4), (6, .int x6), (8, .int (p.2.2.1)), (9, .int (p.2.2.2.1)), (10, .int (p.2.2.2.2.1))] [] (p.2.2.2.2.2) [(q1, 44, p.1), (q2, 45, p.2.1)] 0) (hk303 : ∀ (p : (Nat → Int32) × Int32 × Int32 × Int32 × HS) (r : Int32 × HS × (Nat → Int32) × (Nat → Int32)), k303 p = some r → LR l cL_lay 15 (some .int) (wsU yL_lay cL_lay 15 (some .int)) rmL_lay 0 0 ad [(q3, sL, a3)] (RetE cL_lay (some .int) 0 (FW q1 44 q2 45 r)) 303 [(0, .ref (ad 0)), (1, .ref q1), (2, .ref q2), (3, .ref q3), (4, .int x4), (6, .int x6), (8, .int (p.2.1)), (9, .int (p.2.2.1)), (10, .int x10), (12, .int (p.2.2.2.1))] [] (p.2.2.2.2) [(q1, 44, a1), (q2, 45, p.1)] 0) (r : Int32 × HS × (Nat → Int32) × (Nat → Int32)) (h : g_lay_303_b sL a3 k157 k303 a1 a2 x4 x6 x8 x9 x10 x12 σ = some r) : LR l cL_lay 15 (some .int) (wsU yL_lay cL_lay 15 (some .int)) rmL_lay 0 0 ad [(q3, sL, a3)] (RetE cL_lay (some .int) 0 (FW q1 44 q2 45 r)) 303 [(0, .ref (ad 0)), (1, .ref q1), (2, .ref q2), (3, .ref q3), (4, .int x4), (6, .int x6), (8, .int x8), (9, .int x9), (10, .int x10), (12, .int x12)] [] σ [(q1, 44, a1), (q2, 45, a2)] 0 := by
  unfold g_lay_303_b at h
  refine LR.iload (pc := 303) (j := 9) dL_lay_303 rfl ?_
  refine LR.aload_n (pc := 305) (j := 1) dL_lay_305 rfl rfl ?_
  refine LR.bipush (pc := 306) (v := 9) dL_lay_306 (by decide) ?_
  refine LR.iload (pc := 308) (j := 8) dL_lay_308 rfl ?_
  refine LR.iadd (pc := 310) dL_lay_310 ?_
  obtain ⟨c1, h⟩ := gn_some h
  refine LR.iaload (pc := 311) (j := 0) dL_lay_311 rfl c1 ?_
  refine LR.icmp_ge (pc := 312) (tgt := 514) dL_lay_312 (by decide) (fun c2 => ?_) (fun c2 => ?_)
  · replace h := ite_t c2 h
    refine LR.iinc (pc := 514) (j := 8) (v := (x10 + 1)) (L2 := [(10, .int (x10 + 1)), (0, .ref (ad 0)), (1, .ref q1), (2, .ref q2), (3, .ref q3), (4, .int x4), (6, .int x6), (8, .int x8), (9, .int x9), (12, .int x12)]) dL_lay_514 rfl rfl (by decide) rfl ?_
    refine LR.goto (pc := 517) (tgt := 157) dL_lay_517 (by decide) ?_
    exact LR.pick [1, 2, 3, 4, 5, 6, 7, 8, 0] rfl (hk157 (a1, a2, x8, x9, (x10 + 1), σ) r h)
  · replace h := ite_f c2 h
    refine LR.bipush (pc := 315) (v := 9) dL_lay_315 (by decide) ?_
    refine LR.iload (pc := 317) (j := 8) dL_lay_317 rfl ?_
    refine LR.imul (pc := 319) dL_lay_319 ?_
    refine LR.iconst (pc := 320) (v := 3) dL_lay_320 (by decide) ?_
    refine LR.iload (pc := 321) (j := 9) dL_lay_321 rfl ?_
    refine LR.imul (pc := 323) dL_lay_323 ?_
    refine LR.iadd (pc := 324) dL_lay_324 ?_
    refine LR.istore (pc := 325) (L2 := [(13, .int ((9 * x10) + (3 * x12))), (0, .ref (ad 0)), (1, .ref q1), (2, .ref q2), (3, .ref q3), (4, .int x4), (6, .int x6), (8, .int x8), (9, .int x9), (10, .int x10), (12, .int x12)]) dL_lay_325 (by decide) rfl ?_
    refine LR.aload_n (pc := 327) (j := 4) dL_lay_327 rfl rfl ?_
    refine LR.iload (pc := 328) (j := 5) dL_lay_328 rfl ?_
    refine LR.bipush (pc := 330) (v := 6) dL_lay_330 (by decide) ?_
    refine LR.iadd (pc := 332) dL_lay_332 ?_
    refine LR.iload (pc := 333) (j := 9) dL_lay_333 rfl ?_
    refine LR.iadd (pc := 335) dL_lay_335 ?_
    obtain ⟨r3, h3, h⟩ := bd_some h
    refine LR.callS0 (pc := 336) (As := [.ref q3, .int ((x4 + 6) + x10)]) (st := []) (as2 := []) (asR := [(q1, 44, a1), (q2, 45, a2)]) (ro2 := [(q3, sL, a3)]) (mg := 0) (FIN := (FI σ r3)) [] [0, 1] dL_lay_336 ⟨cd_L_cell, sm_L_cell, ini_L⟩ ml_L_9 (G_cell sL a3 ((x4 + 6) + x10) r3 h3) ⟨rfl, pd_L_cell⟩ ⟨Nat.le_of_ble_eq_true rfl, Nat.le_of_ble_eq_true rfl⟩ ⟨rfl, rfl⟩ rfl rfl rfl rfl rfl (by decide) (Or.inl ⟨[0], rfl⟩) rfl (Nat.le_of_ble_eq_true rfl) (fun v9 σ9 as9 hF9 => ?_)
    obtain ⟨rfl, e9, rfl⟩ := hF9; replace e9 := e9.symm; subst e9
    show LR l cL_lay 15 (some .int) (wsU yL_lay cL_lay 15 (some .int)) rmL_lay 0 0 ad [(q3, sL, a3)] (RetE cL_lay (some .int) 0 (FW q1 44 q2 45 r)) 339 [(13, .int ((9 * x10) + (3 * x12))), (0, .ref (ad 0)), (1, .ref q1), (2, .ref q2), (3, .ref q3), (4, .int x4), (6, .int x6), (8, .int x8), (9, .int x9), (10, .int x10), (12, .int x12)] [.int r3] σ [(q1, 44, a1), (q2, 45, a2)] 0
    refine LR.bipush (pc := 339) (v := 9) dL_lay_339 (by decide) ?_
    refine LR.iload (pc := 341) (j := 10) dL_lay_341 rfl ?_
    refine LR.imul (pc := 343) dL_lay_343 ?_
    refine LR.ishr (pc := 344) dL_lay_344 ?_
    refine LR.istore (pc := 345) (L2 := [(14, .int (r3 >>> ((9 * x12) &&& 31))), (13, .int ((9 * x10) + (3 * x12))), (0, .ref (ad 0)), (1, .ref q1), (2, .ref q2), (3, .ref q3), (4, .int x4), (6, .int x6), (8, .int x8), (9, .int x9), (10, .int x10), (12, .int x12)]) dL_lay_345 (by decide) rfl ?_
    refine LR.aload_n (pc := 347) (j := 4) dL_lay_347 rfl rfl ?_
    refine LR.iload (pc := 348) (j := 1) dL_lay_348 rfl ?_
    refine LR.iconst (pc := 350) (v := 1) dL_lay_350 (by decide) ?_
    refine LR.iload (pc := 351) (j := 0) dL_lay_351 rfl ?_
    refine LR.iload (pc := 353) (j := 7) dL_lay_353 rfl ?_
    obtain ⟨r4, h4, h⟩ := bd_some h
    refine LR.callS0 (pc := 355) (As := [.int (r3 >>> ((9 * x12) &&& 31)), .int x6]) (st := [.int 1, .int ((9 * x10) + (3 * x12)), .ref q2]) (as2 := []) (asR := [(q1, 44, a1), (q2, 45, a2)]) (ro2 := []) (mg := 0) (FIN := (FI σ r4)) [] [0, 1] dL_lay_355 ⟨cd_L_low, sm_L_low, ini_L⟩ ml_L_15 (G_low (r3 >>> ((9 * x12) &&& 31)) x6 r4 h4) ⟨rfl, pd_L_low⟩ ⟨Nat.le_of_ble_eq_true rfl, Nat.le_of_ble_eq_true rfl⟩ ⟨rfl, rfl⟩ rfl rfl rfl rfl rfl (by decide) (Or.inl ⟨[], rfl⟩) rfl (Nat.le_of_ble_eq_true rfl) (fun v9 σ9 as9 hF9 => ?_)
    obtain ⟨rfl, e9, rfl⟩ := hF9; replace e9 := e9.symm; subst e9
    show LR l cL_lay 15 (some .int) (wsU yL_lay cL_lay 15 (some .int)) rmL_lay 0 0 ad [(q3, sL, a3)] (RetE cL_lay (some .int) 0 (FW q1 44 q2 45 r)) 358 [(14, .int (r3 >>> ((9 * x12) &&& 31))), (13, .int ((9 * x10) + (3 * x12))), (0, .ref (ad 0)), (1, .ref q1), (2, .ref q2), (3, .ref q3), (4, .int x4), (6, .int x6), (8, .int x8), (9, .int x9), (10, .int x10), (12, .int x12)] [.int r4, .int 1, .int ((9 * x10) + (3 * x12)), .ref q2] σ [(q1, 44, a1), (q2, 45, a2)] 0
    refine LR.iadd (pc := 358) dL_lay_358 ?_
    obtain ⟨c5, h⟩ := gn_some h
    obtain ⟨b6, e6, h⟩ := bd_some h
    replace e6 := Option.some.inj e6
    refine LR.iastore (pc := 359) (j := 1) (as2 := [(q1, 44, a1), (q2, 45, b6)]) dL_lay_359 rfl c5 (by subst e6; rfl) ?_
    refine LR.aload_n (pc := 360) (j := 4) dL_lay_360 rfl rfl ?_
    refine LR.iload (pc := 361) (j := 1) dL_lay_361 rfl ?_
    refine LR.iconst (pc := 363) (v := 1) dL_lay_363 (by decide) ?_
    refine LR.iadd (pc := 364) dL_lay_364 ?_
    refine LR.iload (pc := 365) (j := 0) dL_lay_365 rfl ?_
    refine LR.iconst (pc := 367) (v := 3) dL_lay_367 (by decide) ?_
    refine LR.ishr (pc := 368) dL_lay_368 ?_
    refine LR.bipush (pc := 369) (v := 10) dL_lay_369 (by decide) ?_
    obtain ⟨r7, h7, h⟩ := bd_some h
    refine LR.callS0 (pc := 371) (As := [.int ((r3 >>> ((9 * x12) &&& 31)) >>> (3 &&& 31)), .int 10]) (st := [.int (((9 * x10) + (3 * x12)) + 1), .ref q2]) (as2 := []) (asR := [(q1, 44, a1), (q2, 45, b6)]) (ro2 := []) (mg := 0) (FIN := (FI σ r7)) [] [0, 1] dL_lay_371 ⟨cd_L_low, sm_L_low, ini_L⟩ ml_L_15 (G_low ((r3 >>> ((9 * x12) &&& 31)) >>> (3 &&& 31)) 10 r7 h7) ⟨rfl, pd_L_low⟩ ⟨Nat.le_of_ble_eq_true rfl, Nat.le_of_ble_eq_true rfl⟩ ⟨rfl, rfl⟩ rfl rfl rfl rfl rfl (by decide) (Or.inl ⟨[], rfl⟩) rfl (Nat.le_of_ble_eq_true rfl) (fun v9 σ9 as9 hF9 => ?_)
    obtain ⟨rfl, e9, rfl⟩ := hF9; replace e9 := e9.symm; subst e9
    show LR l cL_lay 15 (some .int) (wsU yL_lay cL_lay 15 (some .int)) rmL_lay 0 0 ad [(q3, sL, a3)] (RetE cL_lay (some .int) 0 (FW q1 44 q2 45 r)) 374 [(14, .int (r3 >>> ((9 * x12) &&& 31))), (13, .int ((9 * x10) + (3 * x12))), (0, .ref (ad 0)), (1, .ref q1), (2, .ref q2), (3, .ref q3), (4, .int x4), (6, .int x6), (8, .int x8), (9, .int x9), (10, .int x10), (12, .int x12)] [.int r7, .int (((9 * x10) + (3 * x12)) + 1), .ref q2] σ [(q1, 44, a1), (q2, 45, b6)] 0
    obtain ⟨c8, h⟩ := gn_some h
    obtain ⟨b9, e9, h⟩ := bd_some h
    replace e9 := Option.some.inj e9
    refine LR.iastore (pc := 374) (j := 1) (as2 := [(q1, 44, a1), (q2, 45, b9)]) dL_lay_374 rfl c8 (by subst e9; rfl) ?_
    refine LR.aload_n (pc := 375) (j := 4) dL_lay_375 rfl rfl ?_
    refine LR.iload (pc := 376) (j := 1) dL_lay_376 rfl ?_
    refine LR.iconst (pc := 378) (v := 2) dL_lay_378 (by decide) ?_
    refine LR.iadd (pc := 379) dL_lay_379 ?_
    refine LR.iload (pc := 380) (j := 0) dL_lay_380 rfl ?_
    refine LR.iconst (pc := 382) (v := 5) dL_lay_382 (by decide) ?_
    refine LR.ishr (pc := 383) dL_lay_383 ?_
    refine LR.bipush (pc := 384) (v := 10) dL_lay_384 (by decide) ?_
    obtain ⟨r10, h10, h⟩ := bd_some h
    refine LR.callS0 (pc := 386) (As := [.int ((r3 >>> ((9 * x12) &&& 31)) >>> (5 &&& 31)), .int 10]) (st := [.int (((9 * x10) + (3 * x12)) + 2), .ref q2]) (as2 := []) (asR := [(q1, 44, a1), (q2, 45, b9)]) (ro2 := []) (mg := 0) (FIN := (FI σ r10)) [] [0, 1] dL_lay_386 ⟨cd_L_low, sm_L_low, ini_L⟩ ml_L_15 (G_low ((r3 >>> ((9 * x12) &&& 31)) >>> (5 &&& 31)) 10 r10 h10) ⟨rfl, pd_L_low⟩ ⟨Nat.le_of_ble_eq_true rfl, Nat.le_of_ble_eq_true rfl⟩ ⟨rfl, rfl⟩ rfl rfl rfl rfl rfl (by decide) (Or.inl ⟨[], rfl⟩) rfl (Nat.le_of_ble_eq_true rfl) (fun v9 σ9 as9 hF9 => ?_)
    obtain ⟨rfl, e9, rfl⟩ := hF9; replace e9 := e9.symm; subst e9
    show LR l cL_lay 15 (some .int) (wsU yL_lay cL_lay 15 (some .int)) rmL_lay 0 0 ad [(q3, sL, a3)] (RetE cL_lay (some .int) 0 (FW q1 44 q2 45 r)) 389 [(14, .int (r3 >>> ((9 * x12) &&& 31))), (13, .int ((9 * x10) + (3 * x12))), (0, .ref (ad 0)), (1, .ref q1), (2, .ref q2), (3, .ref q3), (4, .int x4), (6, .int x6), (8, .int x8), (9, .int x9), (10, .int x10), (12, .int x12)] [.int r10, .int (((9 * x10) + (3 * x12)) + 2), .ref q2] σ [(q1, 44, a1), (q2, 45, b9)] 0
    obtain ⟨c11, h⟩ := gn_some h
    obtain ⟨b12, e12, h⟩ := bd_some h
    replace e12 := Option.some.inj e12
    refine LR.iastore (pc := 389) (j := 1) (as2 := [(q1, 44, a1), (q2, 45, b12)]) dL_lay_389 rfl c11 (by subst e12; rfl) ?_
    refine LR.iload (pc := 390) (j := 8) dL_lay_390 rfl ?_
    refine LR.if_eq (pc := 392) (tgt := 502) dL_lay_392 (by decide) (fun c13 => ?_) (fun c13 => ?_)
    · replace h := ite_t c13 h
      exact LR.pick [2, 3, 4, 5, 6, 7, 9, 10, 11] rfl (G_lay_502 sL a3 k157 k303 a1 b12 x4 x6 x9 x10 x12 σ hk157 hk303 r h)
    · replace h := ite_f c13 h
      refine LR.aload_n (pc := 395) (j := 2) dL_lay_395 rfl rfl ?_
      refine LR.iconst (pc := 396) (v := 0) dL_lay_396 (by decide) ?_
      refine LR.iload (pc := 397) (j := 9) dL_lay_397 rfl ?_
      refine LR.bipush (pc := 399) (v := 119) dL_lay_399 (by decide) ?_
      obtain ⟨r14, h14, h⟩ := bd_some h
      refine LR.callV (pc := 401) (As := [.int 0, .int x9, .int 119]) (st := []) (ci := 8) dL_lay_401 ⟨cd_X8_put, im_X8_put, se_X8_put, ini_X8⟩ ml_L_19 (A8_put 0 x9 119 σ _ h14) rfl rfl ⟨rfl, pd_X8_put⟩ ⟨Nat.le_of_ble_eq_true rfl, Nat.le_of_ble_eq_true rfl⟩ ⟨rfl, rfl⟩ rfl rfl rfl (Nat.le_of_ble_eq_true rfl) ?_
      refine LR.iconst (pc := 404) (v := 1) dL_lay_404 (by decide) ?_
      refine LR.icmp_ne (pc := 405) (tgt := 502) dL_lay_405 (by decide) (fun c15 => ?_) (fun c15 => ?_)
      · replace h := ite_f c15 h
        exact LR.pick [2, 3, 4, 5, 6, 7, 9, 10, 11] rfl (G_lay_502 sL a3 k157 k303 a1 b12 x4 x6 x9 x10 x12 (r14.2) hk157 hk303 r h)
      · replace h := ite_t c15 h
        refine LR.aload_n (pc := 408) (j := 2) dL_lay_408 rfl rfl ?_
        refine LR.iconst (pc := 409) (v := 0) dL_lay_409 (by decide) ?_
        refine LR.iload (pc := 410) (j := 9) dL_lay_410 rfl ?_
        refine LR.iconst (pc := 412) (v := 1) dL_lay_412 (by decide) ?_
        refine LR.iadd (pc := 413) dL_lay_413 ?_
        refine LR.bipush (pc := 414) (v := 48) dL_lay_414 (by decide) ?_
        refine LR.aload_n (pc := 416) (j := 4) dL_lay_416 rfl rfl ?_
        refine LR.iload (pc := 417) (j := 1) dL_lay_417 rfl ?_
        obtain ⟨c16, h⟩ := gn_some h
        refine LR.iaload (pc := 419) (j := 1) dL_lay_419 rfl c16 ?_
        refine LR.bipush (pc := 420) (v := 10) dL_lay_420 (by decide) ?_
        refine LR.idiv (pc := 422) dL_lay_422 (by decide) ?_
        refine LR.iadd (pc := 423) dL_lay_423 ?_
        obtain ⟨r17, h17, h⟩ := bd_some h
        refine LR.callV (pc := 424) (As := [.int 0, .int (x9 + 1), .int (48 + ((b12 (((9 * x10) + (3 * x12)) : Int32).toNatClampNeg) / 10))]) (st := []) (ci := 8) dL_lay_424 ⟨cd_X8_put, im_X8_put, se_X8_put, ini_X8⟩ ml_L_19 (A8_put 0 (x9 + 1) (48 + ((b12 (((9 * x10) + (3 * x12)) : Int32).toNatClampNeg) / 10)) (r14.2) _ h17) rfl rfl ⟨rfl, pd_X8_put⟩ ⟨Nat.le_of_ble_eq_true rfl, Nat.le_of_ble_eq_true rfl⟩ ⟨rfl, rfl⟩ rfl rfl rfl (Nat.le_of_ble_eq_true rfl) ?_
        refine LR.iconst (pc := 427) (v := 1) dL_lay_427 (by decide) ?_
        refine LR.icmp_ne (pc := 428) (tgt := 502) dL_lay_428 (by decide) (fun c18 => ?_) (fun c18 => ?_)
        · replace h := ite_f c18 h
          exact LR.pick [2, 3, 4, 5, 6, 7, 9, 10, 11] rfl (G_lay_502 sL a3 k157 k303 a1 b12 x4 x6 x9 x10 x12 (r17.2) hk157 hk303 r h)
        · replace h := ite_t c18 h
          refine LR.aload_n (pc := 431) (j := 2) dL_lay_431 rfl rfl ?_
          refine LR.iconst (pc := 432) (v := 0) dL_lay_432 (by decide) ?_
          refine LR.iload (pc := 433) (j := 9) dL_lay_433 rfl ?_
          refine LR.iconst (pc := 435) (v := 2) dL_lay_435 (by decide) ?_
          refine LR.iadd (pc := 436) dL_lay_436 ?_
          refine LR.bipush (pc := 437) (v := 48) dL_lay_437 (by decide) ?_
          refine LR.aload_n (pc := 439) (j := 4) dL_lay_439 rfl rfl ?_
          refine LR.iload (pc := 440) (j := 1) dL_lay_440 rfl ?_
          obtain ⟨c19, h⟩ := gn_some h
          refine LR.iaload (pc := 442) (j := 1) dL_lay_442 rfl c19 ?_
          refine LR.bipush (pc := 443) (v := 10) dL_lay_443 (by decide) ?_
          refine LR.irem (pc := 445) dL_lay_445 (by decide) ?_
          refine LR.iadd (pc := 446) dL_lay_446 ?_
          obtain ⟨r20, h20, h⟩ := bd_some h
          refine LR.callV (pc := 447) (As := [.int 0, .int (x9 + 2), .int (48 + ((b12 (((9 * x10) + (3 * x12)) : Int32).toNatClampNeg) - (b12 (((9 * x10) + (3 * x12)) : Int32).toNatClampNeg) / 10 * 10))]) (st := []) (ci := 8) dL_lay_447 ⟨cd_X8_put, im_X8_put, se_X8_put, ini_X8⟩ ml_L_19 (A8_put 0 (x9 + 2) (48 + ((b12 (((9 * x10) + (3 * x12)) : Int32).toNatClampNeg) - (b12 (((9 * x10) + (3 * x12)) : Int32).toNatClampNeg) / 10 * 10)) (r17.2) _ h20) rfl rfl ⟨rfl, pd_X8_put⟩ ⟨Nat.le_of_ble_eq_true rfl, Nat.le_of_ble_eq_true rfl⟩ ⟨rfl, rfl⟩ rfl rfl rfl (Nat.le_of_ble_eq_true rfl) ?_
          refine LR.iconst (pc := 450) (v := 1) dL_lay_450 (by decide) ?_
          refine LR.icmp_ne (pc := 451) (tgt := 502) dL_lay_451 (by decide) (fun c21 => ?_) (fun c21 => ?_)
          · replace h := ite_f c21 h
            exact LR.pick [2, 3, 4, 5, 6, 7, 9, 10, 11] rfl (G_lay_502 sL a3 k157 k303 a1 b12 x4 x6 x9 x10 x12 (r20.2) hk157 hk303 r h)
          · replace h := ite_t c21 h
            refine LR.aload_n (pc := 454) (j := 2) dL_lay_454 rfl rfl ?_
            refine LR.iconst (pc := 455) (v := 0) dL_lay_455 (by decide) ?_
            refine LR.iload (pc := 456) (j := 9) dL_lay_456 rfl ?_
            refine LR.iconst (pc := 458) (v := 3) dL_lay_458 (by decide) ?_
            refine LR.iadd (pc := 459) dL_lay_459 ?_
            refine LR.bipush (pc := 460) (v := 48) dL_lay_460 (by decide) ?_
            refine LR.aload_n (pc := 462) (j := 4) dL_lay_462 rfl rfl ?_
            refine LR.iload (pc := 463) (j := 1) dL_lay_463 rfl ?_
            refine LR.iconst (pc := 465) (v := 1) dL_lay_465 (by decide) ?_
            refine LR.iadd (pc := 466) dL_lay_466 ?_
            obtain ⟨c22, h⟩ := gn_some h
            refine LR.iaload (pc := 467) (j := 1) dL_lay_467 rfl c22 ?_
            refine LR.iadd (pc := 468) dL_lay_468 ?_
            obtain ⟨r23, h23, h⟩ := bd_some h
            refine LR.callV (pc := 469) (As := [.int 0, .int (x9 + 3), .int (48 + (b12 ((((9 * x10) + (3 * x12)) + 1) : Int32).toNatClampNeg))]) (st := []) (ci := 8) dL_lay_469 ⟨cd_X8_put, im_X8_put, se_X8_put, ini_X8⟩ ml_L_19 (A8_put 0 (x9 + 3) (48 + (b12 ((((9 * x10) + (3 * x12)) + 1) : Int32).toNatClampNeg)) (r20.2) _ h23) rfl rfl ⟨rfl, pd_X8_put⟩ ⟨Nat.le_of_ble_eq_true rfl, Nat.le_of_ble_eq_true rfl⟩ ⟨rfl, rfl⟩ rfl rfl rfl (Nat.le_of_ble_eq_true rfl) ?_
            refine LR.iconst (pc := 472) (v := 1) dL_lay_472 (by decide) ?_
            refine LR.icmp_ne (pc := 473) (tgt := 502) dL_lay_473 (by decide) (fun c24 => ?_) (fun c24 => ?_)
            · replace h := ite_f c24 h
              exact LR.pick [2, 3, 4, 5, 6, 7, 9, 10, 11] rfl (G_lay_502 sL a3 k157 k303 a1 b12 x4 x6 x9 x10 x12 (r23.2) hk157 hk303 r h)
            · replace h := ite_t c24 h
              refine LR.aload_n (pc := 476) (j := 2) dL_lay_476 rfl rfl ?_
              refine LR.iconst (pc := 477) (v := 0) dL_lay_477 (by decide) ?_
              refine LR.iload (pc := 478) (j := 9) dL_lay_478 rfl ?_
              refine LR.iconst (pc := 480) (v := 4) dL_lay_480 (by decide) ?_
              refine LR.iadd (pc := 481) dL_lay_481 ?_
              refine LR.bipush (pc := 482) (v := 48) dL_lay_482 (by decide) ?_
              refine LR.aload_n (pc := 484) (j := 4) dL_lay_484 rfl rfl ?_
              refine LR.iload (pc := 485) (j := 1) dL_lay_485 rfl ?_
              refine LR.iconst (pc := 487) (v := 2) dL_lay_487 (by decide) ?_
              refine LR.iadd (pc := 488) dL_lay_488 ?_
              obtain ⟨c25, h⟩ := gn_some h
              refine LR.iaload (pc := 489) (j := 1) dL_lay_489 rfl c25 ?_
              refine LR.iadd (pc := 490) dL_lay_490 ?_
              obtain ⟨r26, h26, h⟩ := bd_some h
              refine LR.callV (pc := 491) (As := [.int 0, .int (x9 + 4), .int (48 + (b12 ((((9 * x10) + (3 * x12)) + 2) : Int32).toNatClampNeg))]) (st := []) (ci := 8) dL_lay_491 ⟨cd_X8_put, im_X8_put, se_X8_put, ini_X8⟩ ml_L_19 (A8_put 0 (x9 + 4) (48 + (b12 ((((9 * x10) + (3 * x12)) + 2) : Int32).toNatClampNeg)) (r23.2) _ h26) rfl rfl ⟨rfl, pd_X8_put⟩ ⟨Nat.le_of_ble_eq_true rfl, Nat.le_of_ble_eq_true rfl⟩ ⟨rfl, rfl⟩ rfl rfl rfl (Nat.le_of_ble_eq_true rfl) ?_
              refine LR.iconst (pc := 494) (v := 1) dL_lay_494 (by decide) ?_
              refine LR.icmp_ne (pc := 495) (tgt := 502) dL_lay_495 (by decide) (fun c27 => ?_) (fun c27 => ?_)
              · replace h := ite_f c27 h
                exact LR.pick [2, 3, 4, 5, 6, 7, 9, 10, 11] rfl (G_lay_502 sL a3 k157 k303 a1 b12 x4 x6 x9 x10 x12 (r26.2) hk157 hk303 r h)
              · replace h := ite_t c27 h
                refine LR.iconst (pc := 498) (v := 1) dL_lay_498 (by decide) ?_
                refine LR.goto (pc := 499) (tgt := 503) dL_lay_499 (by decide) ?_
                exact LR.pick [2, 3, 4, 5, 6, 7, 9, 10, 11] rfl (G_lay_503 sL a3 k157 k303 a1 b12 x4 x6 x9 x10 x12 1 (r26.2) hk157 hk303 r h)
theorem G_lay_303 {l : Launch} {ad : Nat → Nat} {q3 : Nat} {q1 : Nat} {q2 : Nat} (sL : Nat) (a3 : Nat → Int32) (k157 : (Nat → Int32) × (Nat → Int32) × Int32 × Int32 × Int32 × HS → Option (Int32 × HS × (Nat → Int32) × (Nat → Int32))) (a1 : Nat → Int32) (x4 : Int32) (x6 : Int32) (x10 : Int32) (hk157 : ∀ (p : (Nat → Int32) × (Nat → Int32) × Int32 × Int32 × Int32 × HS) (r : Int32 × HS × (Nat → Int32) × (Nat → Int32)), k157 p = some r → LR l cL_lay 15 (some .int) (wsU yL_lay cL_lay 15 (some .int)) rmL_lay 0 0 ad [(q3, sL, a3)] (RetE cL_lay (some .int) 0 (FW q1 44 q2 45 r)) 157 [(0, .ref (ad 0)), (1, .ref q1), (2, .ref q2), (3, .ref q3), (4, .int x4), (6, .int x6), (8, .int (p.2.2.1)), (9, .int (p.2.2.2.1)), (10, .int (p.2.2.2.2.1))] [] (p.2.2.2.2.2) [(q1, 44, p.1), (q2, 45, p.2.1)] 0) (p : (Nat → Int32) × Int32 × Int32 × Int32 × HS) (r : Int32 × HS × (Nat → Int32) × (Nat → Int32)) (h : g_lay_303 sL a3 k157 a1 x4 x6 x10 p = some r) : LR l cL_lay 15 (some .int) (wsU yL_lay cL_lay 15 (some .int)) rmL_lay 0 0 ad [(q3, sL, a3)] (RetE cL_lay (some .int) 0 (FW q1 44 q2 45 r)) 303 [(0, .ref (ad 0)), (1, .ref q1), (2, .ref q2), (3, .ref q3), (4, .int x4), (6, .int x6), (8, .int (p.2.1)), (9, .int (p.2.2.1)), (10, .int x10), (12, .int (p.2.2.2.1))] [] (p.2.2.2.2) [(q1, 44, a1), (q2, 45, p.1)] 0 := by
  unfold g_lay_303 at h
  exact wloop_run (body := fun k303 p => g_lay_303_b sL a3 k157 k303 a1 p.1 x4 x6 p.2.1 p.2.2.1 x10 p.2.2.2.1 p.2.2.2.2) (Q := (fun p r => LR l cL_lay 15 (some .int) (wsU yL_lay cL_lay 15 (some .int)) rmL_lay 0 0 ad [(q3, sL, a3)] (RetE cL_lay (some .int) 0 (FW q1 44 q2 45 r)) 303 [(0, .ref (ad 0)), (1, .ref q1), (2, .ref q2), (3, .ref q3), (4, .int x4), (6, .int x6), (8, .int (p.2.1)), (9, .int (p.2.2.1)), (10, .int x10), (12, .int (p.2.2.2.1))] [] (p.2.2.2.2) [(q1, 44, a1), (q2, 45, p.1)] 0)) (fun k303 hk303 p r h => G_lay_303_b sL a3 k157 k303 a1 p.1 x4 x6 p.2.1 p.2.2.1 x10 p.2.2.2.1 p.2.2.2.2 hk157 hk303 r h) fuelN p r h
set_option maxHeartbeats 4000000 in
set_option maxRecDepth 100000 in
theorem G_lay_295 {l : Launch} {ad : Nat → Nat} {q3 : Nat} {q1 : Nat} {q2 : Nat} (sL : Nat) (a3 : Nat → Int32) (k157 : (Nat → Int32) × (Nat → Int32) × Int32 × Int32 × Int32 × HS → Option (Int32 × HS × (Nat → Int32) × (Nat → Int32))) (a1 : Nat → Int32) (a2 : Nat → Int32) (x4 : Int32) (x6 : Int32) (x9 : Int32) (x10 : Int32) (z0 : Int32) (σ : HS) (hk157 : ∀ (p : (Nat → Int32) × (Nat → Int32) × Int32 × Int32 × Int32 × HS) (r : Int32 × HS × (Nat → Int32) × (Nat → Int32)), k157 p = some r → LR l cL_lay 15 (some .int) (wsU yL_lay cL_lay 15 (some .int)) rmL_lay 0 0 ad [(q3, sL, a3)] (RetE cL_lay (some .int) 0 (FW q1 44 q2 45 r)) 157 [(0, .ref (ad 0)), (1, .ref q1), (2, .ref q2), (3, .ref q3), (4, .int x4), (6, .int x6), (8, .int (p.2.2.1)), (9, .int (p.2.2.2.1)), (10, .int (p.2.2.2.2.1))] [] (p.2.2.2.2.2) [(q1, 44, p.1), (q2, 45, p.2.1)] 0) (r : Int32 × HS × (Nat → Int32) × (Nat → Int32)) (h : g_lay_295 sL a3 k157 a1 a2 x4 x6 x9 x10 z0 σ = some r) : LR l cL_lay 15 (some .int) (wsU yL_lay cL_lay 15 (some .int)) rmL_lay 0 0 ad [(q3, sL, a3)] (RetE cL_lay (some .int) 0 (FW q1 44 q2 45 r)) 295 [(0, .ref (ad 0)), (1, .ref q1), (2, .ref q2), (3, .ref q3), (4, .int x4), (6, .int x6), (9, .int x9), (10, .int x10)] [.int z0] σ [(q1, 44, a1), (q2, 45, a2)] 0 := by
  unfold g_lay_295 at h
  refine LR.istore (pc := 295) (L2 := [(8, .int z0), (0, .ref (ad 0)), (1, .ref q1), (2, .ref q2), (3, .ref q3), (4, .int x4), (6, .int x6), (9, .int x9), (10, .int x10)]) dL_lay_295 (by decide) rfl ?_
  refine LR.iinc (pc := 297) (j := 7) (v := (x9 + 2)) (L2 := [(9, .int (x9 + 2)), (8, .int z0), (0, .ref (ad 0)), (1, .ref q1), (2, .ref q2), (3, .ref q3), (4, .int x4), (6, .int x6), (10, .int x10)]) dL_lay_297 rfl rfl (by decide) rfl ?_
  refine LR.iconst (pc := 300) (v := 0) dL_lay_300 (by decide) ?_
  refine LR.istore (pc := 301) (L2 := [(12, .int 0), (9, .int (x9 + 2)), (8, .int z0), (0, .ref (ad 0)), (1, .ref q1), (2, .ref q2), (3, .ref q3), (4, .int x4), (6, .int x6), (10, .int x10)]) dL_lay_301 (by decide) rfl ?_
  exact LR.pick [3, 4, 5, 6, 7, 8, 2, 1, 9, 0] rfl (G_lay_303 sL a3 k157 a1 x4 x6 x10 hk157 (a2, z0, (x9 + 2), 0, σ) r h)
set_option maxHeartbeats 4000000 in
set_option maxRecDepth 100000 in
theorem G_lay_294 {l : Launch} {ad : Nat → Nat} {q3 : Nat} {q1 : Nat} {q2 : Nat} (sL : Nat) (a3 : Nat → Int32) (k157 : (Nat → Int32) × (Nat → Int32) × Int32 × Int32 × Int32 × HS → Option (Int32 × HS × (Nat → Int32) × (Nat → Int32))) (a1 : Nat → Int32) (a2 : Nat → Int32) (x4 : Int32) (x6 : Int32) (x9 : Int32) (x10 : Int32) (σ : HS) (hk157 : ∀ (p : (Nat → Int32) × (Nat → Int32) × Int32 × Int32 × Int32 × HS) (r : Int32 × HS × (Nat → Int32) × (Nat → Int32)), k157 p = some r → LR l cL_lay 15 (some .int) (wsU yL_lay cL_lay 15 (some .int)) rmL_lay 0 0 ad [(q3, sL, a3)] (RetE cL_lay (some .int) 0 (FW q1 44 q2 45 r)) 157 [(0, .ref (ad 0)), (1, .ref q1), (2, .ref q2), (3, .ref q3), (4, .int x4), (6, .int x6), (8, .int (p.2.2.1)), (9, .int (p.2.2.2.1)), (10, .int (p.2.2.2.2.1))] [] (p.2.2.2.2.2) [(q1, 44, p.1), (q2, 45, p.2.1)] 0) (r : Int32 × HS × (Nat → Int32) × (Nat → Int32)) (h : g_lay_294 sL a3 k157 a1 a2 x4 x6 x9 x10 σ = some r) : LR l cL_lay 15 (some .int) (wsU yL_lay cL_lay 15 (some .int)) rmL_lay 0 0 ad [(q3, sL, a3)] (RetE cL_lay (some .int) 0 (FW q1 44 q2 45 r)) 294 [(0, .ref (ad 0)), (1, .ref q1), (2, .ref q2), (3, .ref q3), (4, .int x4), (6, .int x6), (9, .int x9), (10, .int x10)] [] σ [(q1, 44, a1), (q2, 45, a2)] 0 := by
  unfold g_lay_294 at h
  refine LR.iconst (pc := 294) (v := 0) dL_lay_294 (by decide) ?_
  exact LR.pick [0, 1, 2, 3, 4, 5, 6, 7] rfl (G_lay_295 sL a3 k157 a1 a2 x4 x6 x9 x10 0 σ hk157 r h)
set_option maxHeartbeats 4000000 in
set_option maxRecDepth 100000 in
theorem G_lay_283 {l : Launch} {ad : Nat → Nat} {q3 : Nat} {q1 : Nat} {q2 : Nat} (sL : Nat) (a3 : Nat → Int32) (k157 : (Nat → Int32) × (Nat → Int32) × Int32 × Int32 × Int32 × HS → Option (Int32 × HS × (Nat → Int32) × (Nat → Int32))) (a1 : Nat → Int32) (a2 : Nat → Int32) (x4 : Int32) (x6 : Int32) (x9 : Int32) (x10 : Int32) (z0 : Int32) (z1 : Int32) (z2 : Int32) (σ : HS) (hk157 : ∀ (p : (Nat → Int32) × (Nat → Int32) × Int32 × Int32 × Int32 × HS) (r : Int32 × HS × (Nat → Int32) × (Nat → Int32)), k157 p = some r → LR l cL_lay 15 (some .int) (wsU yL_lay cL_lay 15 (some .int)) rmL_lay 0 0 ad [(q3, sL, a3)] (RetE cL_lay (some .int) 0 (FW q1 44 q2 45 r)) 157 [(0, .ref (ad 0)), (1, .ref q1), (2, .ref q2), (3, .ref q3), (4, .int x4), (6, .int x6), (8, .int (p.2.2.1)), (9, .int (p.2.2.2.1)), (10, .int (p.2.2.2.2.1))] [] (p.2.2.2.2.2) [(q1, 44, p.1), (q2, 45, p.2.1)] 0) (r : Int32 × HS × (Nat → Int32) × (Nat → Int32)) (h : g_lay_283 sL a3 k157 a1 a2 x4 x6 x9 x10 z0 z1 z2 σ = some r) : LR l cL_lay 15 (some .int) (wsU yL_lay cL_lay 15 (some .int)) rmL_lay 0 0 ad [(q3, sL, a3)] (RetE cL_lay (some .int) 0 (FW q1 44 q2 45 r)) 283 [(0, .ref (ad 0)), (1, .ref q1), (2, .ref q2), (3, .ref q3), (4, .int x4), (6, .int x6), (9, .int x9), (10, .int x10)] [.int z0, .int z1, .int z2, .ref (ad 0)] σ [(q1, 44, a1), (q2, 45, a2)] 0 := by
  unfold g_lay_283 at h
  obtain ⟨r1, h1, h⟩ := bd_some h
  refine LR.callV (pc := 283) (As := [.int z2, .int z1, .int z0]) (st := []) (ci := 8) dL_lay_283 ⟨cd_X8_put, im_X8_put, se_X8_put, ini_X8⟩ ml_L_19 (A8_put z2 z1 z0 σ _ h1) rfl rfl ⟨rfl, pd_X8_put⟩ ⟨Nat.le_of_ble_eq_true rfl, Nat.le_of_ble_eq_true rfl⟩ ⟨rfl, rfl⟩ rfl rfl rfl (Nat.le_of_ble_eq_true rfl) ?_
  refine LR.iconst (pc := 286) (v := 1) dL_lay_286 (by decide) ?_
  refine LR.icmp_ne (pc := 287) (tgt := 294) dL_lay_287 (by decide) (fun c2 => ?_) (fun c2 => ?_)
  · replace h := ite_f c2 h
    exact LR.pick [0, 1, 2, 3, 4, 5, 6, 7] rfl (G_lay_294 sL a3 k157 a1 a2 x4 x6 x9 x10 (r1.2) hk157 r h)
  · replace h := ite_t c2 h
    refine LR.iconst (pc := 290) (v := 1) dL_lay_290 (by decide) ?_
    refine LR.goto (pc := 291) (tgt := 295) dL_lay_291 (by decide) ?_
    exact LR.pick [0, 1, 2, 3, 4, 5, 6, 7] rfl (G_lay_295 sL a3 k157 a1 a2 x4 x6 x9 x10 1 (r1.2) hk157 r h)
set_option maxHeartbeats 4000000 in
set_option maxRecDepth 100000 in
theorem G_lay_201 {l : Launch} {ad : Nat → Nat} {q3 : Nat} {q1 : Nat} {q2 : Nat} (sL : Nat) (a3 : Nat → Int32) (k157 : (Nat → Int32) × (Nat → Int32) × Int32 × Int32 × Int32 × HS → Option (Int32 × HS × (Nat → Int32) × (Nat → Int32))) (a1 : Nat → Int32) (a2 : Nat → Int32) (x4 : Int32) (x6 : Int32) (x8 : Int32) (x9 : Int32) (x10 : Int32) (x11 : Int32) (z0 : Int32) (z1 : Int32) (σ : HS) (hk157 : ∀ (p : (Nat → Int32) × (Nat → Int32) × Int32 × Int32 × Int32 × HS) (r : Int32 × HS × (Nat → Int32) × (Nat → Int32)), k157 p = some r → LR l cL_lay 15 (some .int) (wsU yL_lay cL_lay 15 (some .int)) rmL_lay 0 0 ad [(q3, sL, a3)] (RetE cL_lay (some .int) 0 (FW q1 44 q2 45 r)) 157 [(0, .ref (ad 0)), (1, .ref q1), (2, .ref q2), (3, .ref q3), (4, .int x4), (6, .int x6), (8, .int (p.2.2.1)), (9, .int (p.2.2.2.1)), (10, .int (p.2.2.2.2.1))] [] (p.2.2.2.2.2) [(q1, 44, p.1), (q2, 45, p.2.1)] 0) (r : Int32 × HS × (Nat → Int32) × (Nat → Int32)) (h : g_lay_201 sL a3 k157 a1 a2 x4 x6 x8 x9 x10 x11 z0 z1 σ = some r) : LR l cL_lay 15 (some .int) (wsU yL_lay cL_lay 15 (some .int)) rmL_lay 0 0 ad [(q3, sL, a3)] (RetE cL_lay (some .int) 0 (FW q1 44 q2 45 r)) 201 [(0, .ref (ad 0)), (1, .ref q1), (2, .ref q2), (3, .ref q3), (4, .int x4), (6, .int x6), (8, .int x8), (9, .int x9), (10, .int x10), (11, .int x11)] [.int z0, .int z1, .ref q1] σ [(q1, 44, a1), (q2, 45, a2)] 0 := by
  unfold g_lay_201 at h
  obtain ⟨c1, h⟩ := gn_some h
  obtain ⟨b2, e2, h⟩ := bd_some h
  replace e2 := Option.some.inj e2
  refine LR.iastore (pc := 201) (j := 0) (as2 := [(q1, 44, b2), (q2, 45, a2)]) dL_lay_201 rfl c1 (by subst e2; rfl) ?_
  refine LR.aload_n (pc := 202) (j := 1) dL_lay_202 rfl rfl ?_
  refine LR.bipush (pc := 203) (v := 9) dL_lay_203 (by decide) ?_
  refine LR.iload (pc := 205) (j := 8) dL_lay_205 rfl ?_
  refine LR.iadd (pc := 207) dL_lay_207 ?_
  refine LR.iconst (pc := 208) (v := 1) dL_lay_208 (by decide) ?_
  refine LR.iload (pc := 209) (j := 9) dL_lay_209 rfl ?_
  refine LR.iconst (pc := 211) (v := 3) dL_lay_211 (by decide) ?_
  refine LR.ishr (pc := 212) dL_lay_212 ?_
  refine LR.iconst (pc := 213) (v := 3) dL_lay_213 (by decide) ?_
  obtain ⟨r3, h3, h⟩ := bd_some h
  refine LR.callS0 (pc := 214) (As := [.int (x11 >>> (3 &&& 31)), .int 3]) (st := [.int 1, .int (9 + x10), .ref q1]) (as2 := []) (asR := [(q1, 44, b2), (q2, 45, a2)]) (ro2 := []) (mg := 0) (FIN := (FI σ r3)) [] [0, 1] dL_lay_214 ⟨cd_L_low, sm_L_low, ini_L⟩ ml_L_15 (G_low (x11 >>> (3 &&& 31)) 3 r3 h3) ⟨rfl, pd_L_low⟩ ⟨Nat.le_of_ble_eq_true rfl, Nat.le_of_ble_eq_true rfl⟩ ⟨rfl, rfl⟩ rfl rfl rfl rfl rfl (by decide) (Or.inl ⟨[], rfl⟩) rfl (Nat.le_of_ble_eq_true rfl) (fun v9 σ9 as9 hF9 => ?_)
  obtain ⟨rfl, e9, rfl⟩ := hF9; replace e9 := e9.symm; subst e9
  show LR l cL_lay 15 (some .int) (wsU yL_lay cL_lay 15 (some .int)) rmL_lay 0 0 ad [(q3, sL, a3)] (RetE cL_lay (some .int) 0 (FW q1 44 q2 45 r)) 217 [(0, .ref (ad 0)), (1, .ref q1), (2, .ref q2), (3, .ref q3), (4, .int x4), (6, .int x6), (8, .int x8), (9, .int x9), (10, .int x10), (11, .int x11)] [.int r3, .int 1, .int (9 + x10), .ref q1] σ [(q1, 44, b2), (q2, 45, a2)] 0
  refine LR.iadd (pc := 217) dL_lay_217 ?_
  obtain ⟨c4, h⟩ := gn_some h
  obtain ⟨b5, e5, h⟩ := bd_some h
  replace e5 := Option.some.inj e5
  refine LR.iastore (pc := 218) (j := 0) (as2 := [(q1, 44, b5), (q2, 45, a2)]) dL_lay_218 rfl c4 (by subst e5; rfl) ?_
  refine LR.aload_n (pc := 219) (j := 1) dL_lay_219 rfl rfl ?_
  refine LR.bipush (pc := 220) (v := 14) dL_lay_220 (by decide) ?_
  refine LR.iload (pc := 222) (j := 8) dL_lay_222 rfl ?_
  refine LR.iadd (pc := 224) dL_lay_224 ?_
  refine LR.iload (pc := 225) (j := 8) dL_lay_225 rfl ?_
  obtain ⟨c6, h⟩ := gn_some h
  obtain ⟨b7, e7, h⟩ := bd_some h
  replace e7 := Option.some.inj e7
  refine LR.iastore (pc := 227) (j := 0) (as2 := [(q1, 44, b7), (q2, 45, a2)]) dL_lay_227 rfl c6 (by subst e7; rfl) ?_
  refine LR.iload (pc := 228) (j := 6) dL_lay_228 rfl ?_
  refine LR.if_eq (pc := 230) (tgt := 294) dL_lay_230 (by decide) (fun c8 => ?_) (fun c8 => ?_)
  · replace h := ite_t c8 h
    exact LR.pick [0, 1, 2, 3, 4, 5, 7, 8] rfl (G_lay_294 sL a3 k157 b7 a2 x4 x6 x9 x10 σ hk157 r h)
  · replace h := ite_f c8 h
    refine LR.aload_n (pc := 233) (j := 0) dL_lay_233 rfl rfl ?_
    refine LR.iconst (pc := 234) (v := 0) dL_lay_234 (by decide) ?_
    refine LR.iload (pc := 235) (j := 7) dL_lay_235 rfl ?_
    refine LR.bipush (pc := 237) (v := 59) dL_lay_237 (by decide) ?_
    obtain ⟨r9, h9, h⟩ := bd_some h
    refine LR.callV (pc := 239) (As := [.int 0, .int x9, .int 59]) (st := []) (ci := 8) dL_lay_239 ⟨cd_X8_put, im_X8_put, se_X8_put, ini_X8⟩ ml_L_19 (A8_put 0 x9 59 σ _ h9) rfl rfl ⟨rfl, pd_X8_put⟩ ⟨Nat.le_of_ble_eq_true rfl, Nat.le_of_ble_eq_true rfl⟩ ⟨rfl, rfl⟩ rfl rfl rfl (Nat.le_of_ble_eq_true rfl) ?_
    refine LR.iconst (pc := 242) (v := 1) dL_lay_242 (by decide) ?_
    refine LR.icmp_ne (pc := 243) (tgt := 294) dL_lay_243 (by decide) (fun c10 => ?_) (fun c10 => ?_)
    · replace h := ite_f c10 h
      exact LR.pick [0, 1, 2, 3, 4, 5, 7, 8] rfl (G_lay_294 sL a3 k157 b7 a2 x4 x6 x9 x10 (r9.2) hk157 r h)
    · replace h := ite_t c10 h
      refine LR.aload_n (pc := 246) (j := 0) dL_lay_246 rfl rfl ?_
      refine LR.iconst (pc := 247) (v := 0) dL_lay_247 (by decide) ?_
      refine LR.iload (pc := 248) (j := 7) dL_lay_248 rfl ?_
      refine LR.iconst (pc := 250) (v := 1) dL_lay_250 (by decide) ?_
      refine LR.iadd (pc := 251) dL_lay_251 ?_
      refine LR.aload_n (pc := 252) (j := 1) dL_lay_252 rfl rfl ?_
      refine LR.iconst (pc := 253) (v := 4) dL_lay_253 (by decide) ?_
      refine LR.iload (pc := 254) (j := 8) dL_lay_254 rfl ?_
      refine LR.iadd (pc := 256) dL_lay_256 ?_
      obtain ⟨c11, h⟩ := gn_some h
      refine LR.iaload (pc := 257) (j := 0) dL_lay_257 rfl c11 ?_
      refine LR.if_ne (pc := 258) (tgt := 266) dL_lay_258 (by decide) (fun c12 => ?_) (fun c12 => ?_)
      · replace h := ite_f c12 h
        refine LR.aload_n (pc := 266) (j := 1) dL_lay_266 rfl rfl ?_
        refine LR.iconst (pc := 267) (v := 4) dL_lay_267 (by decide) ?_
        refine LR.iload (pc := 268) (j := 8) dL_lay_268 rfl ?_
        refine LR.iadd (pc := 270) dL_lay_270 ?_
        obtain ⟨c13, h⟩ := gn_some h
        refine LR.iaload (pc := 271) (j := 0) dL_lay_271 rfl c13 ?_
        refine LR.iconst (pc := 272) (v := 1) dL_lay_272 (by decide) ?_
        refine LR.icmp_ne (pc := 273) (tgt := 281) dL_lay_273 (by decide) (fun c14 => ?_) (fun c14 => ?_)
        · replace h := ite_f c14 h
          refine LR.bipush (pc := 281) (v := 111) dL_lay_281 (by decide) ?_
          exact LR.pick [0, 1, 2, 3, 4, 5, 7, 8] rfl (G_lay_283 sL a3 k157 b7 a2 x4 x6 x9 x10 111 (x9 + 1) 0 (r9.2) hk157 r h)
        · replace h := ite_t c14 h
          refine LR.bipush (pc := 276) (v := 116) dL_lay_276 (by decide) ?_
          refine LR.goto (pc := 278) (tgt := 283) dL_lay_278 (by decide) ?_
          exact LR.pick [0, 1, 2, 3, 4, 5, 7, 8] rfl (G_lay_283 sL a3 k157 b7 a2 x4 x6 x9 x10 116 (x9 + 1) 0 (r9.2) hk157 r h)
      · replace h := ite_t c12 h
        refine LR.bipush (pc := 261) (v := 112) dL_lay_261 (by decide) ?_
        refine LR.goto (pc := 263) (tgt := 283) dL_lay_263 (by decide) ?_
        exact LR.pick [0, 1, 2, 3, 4, 5, 7, 8] rfl (G_lay_283 sL a3 k157 b7 a2 x4 x6 x9 x10 112 (x9 + 1) 0 (r9.2) hk157 r h)
set_option maxHeartbeats 4000000 in
set_option maxRecDepth 100000 in
theorem G_lay_157_b {l : Launch} {ad : Nat → Nat} {q3 : Nat} {q1 : Nat} {q2 : Nat} (sL : Nat) (a3 : Nat → Int32) (k157 : (Nat → Int32) × (Nat → Int32) × Int32 × Int32 × Int32 × HS → Option (Int32 × HS × (Nat → Int32) × (Nat → Int32))) (a1 : Nat → Int32) (a2 : Nat → Int32) (x4 : Int32) (x6 : Int32) (x8 : Int32) (x9 : Int32) (x10 : Int32) (σ : HS) (hk157 : ∀ (p : (Nat → Int32) × (Nat → Int32) × Int32 × Int32 × Int32 × HS) (r : Int32 × HS × (Nat → Int32) × (Nat → Int32)), k157 p = some r → LR l cL_lay 15 (some .int) (wsU yL_lay cL_lay 15 (some .int)) rmL_lay 0 0 ad [(q3, sL, a3)] (RetE cL_lay (some .int) 0 (FW q1 44 q2 45 r)) 157 [(0, .ref (ad 0)), (1, .ref q1), (2, .ref q2), (3, .ref q3), (4, .int x4), (6, .int x6), (8, .int (p.2.2.1)), (9, .int (p.2.2.2.1)), (10, .int (p.2.2.2.2.1))] [] (p.2.2.2.2.2) [(q1, 44, p.1), (q2, 45, p.2.1)] 0) (r : Int32 × HS × (Nat → Int32) × (Nat → Int32)) (h : g_lay_157_b sL a3 k157 a1 a2 x4 x6 x8 x9 x10 σ = some r) : LR l cL_lay 15 (some .int) (wsU yL_lay cL_lay 15 (some .int)) rmL_lay 0 0 ad [(q3, sL, a3)] (RetE cL_lay (some .int) 0 (FW q1 44 q2 45 r)) 157 [(0, .ref (ad 0)), (1, .ref q1), (2, .ref q2), (3, .ref q3), (4, .int x4), (6, .int x6), (8, .int x8), (9, .int x9), (10, .int x10)] [] σ [(q1, 44, a1), (q2, 45, a2)] 0 := by
  unfold g_lay_157_b at h
  refine LR.iload (pc := 157) (j := 8) dL_lay_157 rfl ?_
  refine LR.aload_n (pc := 159) (j := 1) dL_lay_159 rfl rfl ?_
  refine LR.iconst (pc := 160) (v := 0) dL_lay_160 (by decide) ?_
  refine LR.iaload (pc := 161) (j := 0) dL_lay_161 rfl (by decide) ?_
  refine LR.icmp_ge (pc := 162) (tgt := 520) dL_lay_162 (by decide) (fun c1 => ?_) (fun c1 => ?_)
  · replace h := ite_t c1 h
    refine LR.aload_n (pc := 520) (j := 1) dL_lay_520 rfl rfl ?_
    refine LR.bipush (pc := 521) (v := 40) dL_lay_521 (by decide) ?_
    refine LR.iload (pc := 523) (j := 7) dL_lay_523 rfl ?_
    obtain ⟨b2, e2, h⟩ := bd_some h
    replace e2 := Option.some.inj e2
    refine LR.iastore (pc := 525) (j := 0) (as2 := [(q1, 44, b2), (q2, 45, a2)]) dL_lay_525 rfl (by decide) (by subst e2; rfl) ?_
    refine LR.iload (pc := 526) (j := 6) dL_lay_526 rfl ?_
    refine LR.if_eq (pc := 528) (tgt := 543) dL_lay_528 (by decide) (fun c3 => ?_) (fun c3 => ?_)
    · replace h := ite_t c3 h
      refine LR.sipush (pc := 543) (v := (-999)) dL_lay_543 (by decide) ?_
      refine LR.sub (as2 := [(q1, 44, b2), (q2, 45, a2)]) [0, 1] rfl rfl ?_
      exact LR.fin ⟨Nat.le_of_ble_eq_true rfl, Or.inl ⟨_, rfl, dL_lay_546, Or.inl rfl, (by have hh := Option.some.inj h; subst hh; exact ⟨rfl, rfl, rfl⟩)⟩⟩
    · replace h := ite_f c3 h
      refine LR.aload_n (pc := 531) (j := 0) dL_lay_531 rfl rfl ?_
      refine LR.iconst (pc := 532) (v := 0) dL_lay_532 (by decide) ?_
      refine LR.iconst (pc := 533) (v := 0) dL_lay_533 (by decide) ?_
      refine LR.iconst (pc := 534) (v := 0) dL_lay_534 (by decide) ?_
      refine LR.iload (pc := 535) (j := 7) dL_lay_535 rfl ?_
      obtain ⟨r4, h4, h⟩ := bd_some h
      refine LR.callV (pc := 537) (As := [.int 0, .int 0, .int 0, .int x9]) (st := []) (ci := 8) dL_lay_537 ⟨cd_X8_council, im_X8_council, se_X8_council, ini_X8⟩ ml_L_25 (A8_council 0 0 0 x9 σ _ h4) rfl rfl ⟨rfl, pd_X8_council⟩ ⟨Nat.le_of_ble_eq_true rfl, Nat.le_of_ble_eq_true rfl⟩ ⟨rfl, rfl⟩ rfl rfl rfl (Nat.le_of_ble_eq_true rfl) ?_
      refine LR.goto (pc := 540) (tgt := 546) dL_lay_540 (by decide) ?_
      refine LR.sub (as2 := [(q1, 44, b2), (q2, 45, a2)]) [0, 1] rfl rfl ?_
      exact LR.fin ⟨Nat.le_of_ble_eq_true rfl, Or.inl ⟨_, rfl, dL_lay_546, Or.inl rfl, (by have hh := Option.some.inj h; subst hh; exact ⟨rfl, rfl, rfl⟩)⟩⟩
  · replace h := ite_f c1 h
    refine LR.aload_n (pc := 165) (j := 3) dL_lay_165 rfl rfl ?_
    refine LR.iload (pc := 166) (j := 4) dL_lay_166 rfl ?_
    refine LR.iconst (pc := 168) (v := 1) dL_lay_168 (by decide) ?_
    refine LR.iadd (pc := 169) dL_lay_169 ?_
    refine LR.iload (pc := 170) (j := 8) dL_lay_170 rfl ?_
    refine LR.iadd (pc := 172) dL_lay_172 ?_
    obtain ⟨r5, h5, h⟩ := bd_some h
    refine LR.callS0 (pc := 173) (As := [.ref q3, .int ((x4 + 1) + x10)]) (st := []) (as2 := []) (asR := [(q1, 44, a1), (q2, 45, a2)]) (ro2 := [(q3, sL, a3)]) (mg := 0) (FIN := (FI σ r5)) [] [0, 1] dL_lay_173 ⟨cd_L_cell, sm_L_cell, ini_L⟩ ml_L_9 (G_cell sL a3 ((x4 + 1) + x10) r5 h5) ⟨rfl, pd_L_cell⟩ ⟨Nat.le_of_ble_eq_true rfl, Nat.le_of_ble_eq_true rfl⟩ ⟨rfl, rfl⟩ rfl rfl rfl rfl rfl (by decide) (Or.inl ⟨[0], rfl⟩) rfl (Nat.le_of_ble_eq_true rfl) (fun v9 σ9 as9 hF9 => ?_)
    obtain ⟨rfl, e9, rfl⟩ := hF9; replace e9 := e9.symm; subst e9
    show LR l cL_lay 15 (some .int) (wsU yL_lay cL_lay 15 (some .int)) rmL_lay 0 0 ad [(q3, sL, a3)] (RetE cL_lay (some .int) 0 (FW q1 44 q2 45 r)) 176 [(0, .ref (ad 0)), (1, .ref q1), (2, .ref q2), (3, .ref q3), (4, .int x4), (6, .int x6), (8, .int x8), (9, .int x9), (10, .int x10)] [.int r5] σ [(q1, 44, a1), (q2, 45, a2)] 0
    refine LR.istore (pc := 176) (L2 := [(11, .int r5), (0, .ref (ad 0)), (1, .ref q1), (2, .ref q2), (3, .ref q3), (4, .int x4), (6, .int x6), (8, .int x8), (9, .int x9), (10, .int x10)]) dL_lay_176 (by decide) rfl ?_
    refine LR.aload_n (pc := 178) (j := 2) dL_lay_178 rfl rfl ?_
    refine LR.iconst (pc := 179) (v := 4) dL_lay_179 (by decide) ?_
    refine LR.iload (pc := 180) (j := 9) dL_lay_180 rfl ?_
    refine LR.iadd (pc := 182) dL_lay_182 ?_
    refine LR.iload (pc := 183) (j := 0) dL_lay_183 rfl ?_
    refine LR.bipush (pc := 185) (v := 7) dL_lay_185 (by decide) ?_
    refine LR.iand (pc := 187) dL_lay_187 ?_
    refine LR.bipush (pc := 188) (v := 7) dL_lay_188 (by decide) ?_
    refine LR.icmp_ne (pc := 190) (tgt := 197) dL_lay_190 (by decide) (fun c6 => ?_) (fun c6 => ?_)
    · replace h := ite_f c6 h
      refine LR.iload (pc := 197) (j := 0) dL_lay_197 rfl ?_
      refine LR.iconst (pc := 199) (v := 1) dL_lay_199 (by decide) ?_
      refine LR.iand (pc := 200) dL_lay_200 ?_
      exact LR.pick [1, 2, 3, 4, 5, 6, 7, 8, 9, 0] rfl (G_lay_201 sL a3 k157 a1 a2 x4 x6 x8 x9 x10 r5 (r5 &&& 1) (4 + x10) σ hk157 r h)
    · replace h := ite_t c6 h
      refine LR.iconst (pc := 193) (v := 2) dL_lay_193 (by decide) ?_
      refine LR.goto (pc := 194) (tgt := 201) dL_lay_194 (by decide) ?_
      exact LR.pick [1, 2, 3, 4, 5, 6, 7, 8, 9, 0] rfl (G_lay_201 sL a3 k157 a1 a2 x4 x6 x8 x9 x10 r5 2 (4 + x10) σ hk157 r h)
theorem G_lay_157 {l : Launch} {ad : Nat → Nat} {q3 : Nat} {q1 : Nat} {q2 : Nat} (sL : Nat) (a3 : Nat → Int32) (x4 : Int32) (x6 : Int32) (p : (Nat → Int32) × (Nat → Int32) × Int32 × Int32 × Int32 × HS) (r : Int32 × HS × (Nat → Int32) × (Nat → Int32)) (h : g_lay_157 sL a3 x4 x6 p = some r) : LR l cL_lay 15 (some .int) (wsU yL_lay cL_lay 15 (some .int)) rmL_lay 0 0 ad [(q3, sL, a3)] (RetE cL_lay (some .int) 0 (FW q1 44 q2 45 r)) 157 [(0, .ref (ad 0)), (1, .ref q1), (2, .ref q2), (3, .ref q3), (4, .int x4), (6, .int x6), (8, .int (p.2.2.1)), (9, .int (p.2.2.2.1)), (10, .int (p.2.2.2.2.1))] [] (p.2.2.2.2.2) [(q1, 44, p.1), (q2, 45, p.2.1)] 0 := by
  unfold g_lay_157 at h
  exact wloop_run (body := fun k157 p => g_lay_157_b sL a3 k157 p.1 p.2.1 x4 x6 p.2.2.1 p.2.2.2.1 p.2.2.2.2.1 p.2.2.2.2.2) (Q := (fun p r => LR l cL_lay 15 (some .int) (wsU yL_lay cL_lay 15 (some .int)) rmL_lay 0 0 ad [(q3, sL, a3)] (RetE cL_lay (some .int) 0 (FW q1 44 q2 45 r)) 157 [(0, .ref (ad 0)), (1, .ref q1), (2, .ref q2), (3, .ref q3), (4, .int x4), (6, .int x6), (8, .int (p.2.2.1)), (9, .int (p.2.2.2.1)), (10, .int (p.2.2.2.2.1))] [] (p.2.2.2.2.2) [(q1, 44, p.1), (q2, 45, p.2.1)] 0)) (fun k157 hk157 p r h => G_lay_157_b sL a3 k157 p.1 p.2.1 x4 x6 p.2.2.1 p.2.2.2.1 p.2.2.2.2.1 p.2.2.2.2.2 hk157 r h) fuelN p r h
set_option maxHeartbeats 4000000 in
set_option maxRecDepth 100000 in
theorem G_lay_148 {l : Launch} {ad : Nat → Nat} {q3 : Nat} {q1 : Nat} {q2 : Nat} (sL : Nat) (a3 : Nat → Int32) (a1 : Nat → Int32) (a2 : Nat → Int32) (x4 : Int32) (x6 : Int32) (z0 : Int32) (σ : HS) (r : Int32 × HS × (Nat → Int32) × (Nat → Int32)) (h : g_lay_148 sL a3 a1 a2 x4 x6 z0 σ = some r) : LR l cL_lay 15 (some .int) (wsU yL_lay cL_lay 15 (some .int)) rmL_lay 0 0 ad [(q3, sL, a3)] (RetE cL_lay (some .int) 0 (FW q1 44 q2 45 r)) 148 [(0, .ref (ad 0)), (1, .ref q1), (2, .ref q2), (3, .ref q3), (4, .int x4), (6, .int x6)] [.int z0] σ [(q1, 44, a1), (q2, 45, a2)] 0 := by
  unfold g_lay_148 at h
  refine LR.istore (pc := 148) (L2 := [(8, .int z0), (0, .ref (ad 0)), (1, .ref q1), (2, .ref q2), (3, .ref q3), (4, .int x4), (6, .int x6)]) dL_lay_148 (by decide) rfl ?_
  refine LR.bipush (pc := 150) (v := 6) dL_lay_150 (by decide) ?_
  refine LR.istore (pc := 152) (L2 := [(9, .int 6), (8, .int z0), (0, .ref (ad 0)), (1, .ref q1), (2, .ref q2), (3, .ref q3), (4, .int x4), (6, .int x6)]) dL_lay_152 (by decide) rfl ?_
  refine LR.iconst (pc := 154) (v := 0) dL_lay_154 (by decide) ?_
  refine LR.istore (pc := 155) (L2 := [(10, .int 0), (9, .int 6), (8, .int z0), (0, .ref (ad 0)), (1, .ref q1), (2, .ref q2), (3, .ref q3), (4, .int x4), (6, .int x6)]) dL_lay_155 (by decide) rfl ?_
  exact LR.pick [3, 4, 5, 6, 7, 8, 2, 1, 0] rfl (G_lay_157 sL a3 x4 x6 (a1, a2, z0, 6, 0, σ) r h)
set_option maxHeartbeats 4000000 in
set_option maxRecDepth 100000 in
theorem G_lay_147 {l : Launch} {ad : Nat → Nat} {q3 : Nat} {q1 : Nat} {q2 : Nat} (sL : Nat) (a3 : Nat → Int32) (a1 : Nat → Int32) (a2 : Nat → Int32) (x4 : Int32) (x6 : Int32) (σ : HS) (r : Int32 × HS × (Nat → Int32) × (Nat → Int32)) (h : g_lay_147 sL a3 a1 a2 x4 x6 σ = some r) : LR l cL_lay 15 (some .int) (wsU yL_lay cL_lay 15 (some .int)) rmL_lay 0 0 ad [(q3, sL, a3)] (RetE cL_lay (some .int) 0 (FW q1 44 q2 45 r)) 147 [(0, .ref (ad 0)), (1, .ref q1), (2, .ref q2), (3, .ref q3), (4, .int x4), (6, .int x6)] [] σ [(q1, 44, a1), (q2, 45, a2)] 0 := by
  unfold g_lay_147 at h
  refine LR.iconst (pc := 147) (v := 0) dL_lay_147 (by decide) ?_
  exact LR.pick [0, 1, 2, 3, 4, 5] rfl (G_lay_148 sL a3 a1 a2 x4 x6 0 σ r h)
set_option maxHeartbeats 4000000 in
set_option maxRecDepth 100000 in
theorem G_lay {l : Launch} {ad : Nat → Nat} {q3 : Nat} {q1 : Nat} {q2 : Nat} (sL : Nat) (a1 : Nat → Int32) (a2 : Nat → Int32) (a3 : Nat → Int32) (x4 : Int32) (x5 : Int32) (x6 : Int32) (σ : HS) (r : Int32 × HS × (Nat → Int32) × (Nat → Int32)) (h : g_lay sL a1 a2 a3 x4 x5 x6 σ = some r) : LM l yL_lay (wsU yL_lay cL_lay 15 (some .int)) rmL_lay 0 [.ref (ad 0), .ref q1, .ref q2, .ref q3, .int x4, .int x5, .int x6] ad σ [(q1, 44, a1), (q2, 45, a2)] [(q3, sL, a3)] (FW q1 44 q2 45 r) := by
  refine LM.of (L := [(0, .ref (ad 0)), (1, .ref q1), (2, .ref q2), (3, .ref q3), (4, .int x4), (5, .int x5), (6, .int x6)]) pn_L_lay rfl (Nat.le_of_ble_eq_true rfl) rfl ?_
  unfold g_lay at h
  refine LR.aload_n (pc := 0) (j := 3) dL_lay_0 rfl rfl ?_
  refine LR.iload (pc := 1) (j := 4) dL_lay_1 rfl ?_
  obtain ⟨r1, h1, h⟩ := bd_some h
  refine LR.callS0 (pc := 3) (As := [.ref q3, .int x4]) (st := []) (as2 := []) (asR := [(q1, 44, a1), (q2, 45, a2)]) (ro2 := [(q3, sL, a3)]) (mg := 0) (FIN := (FI σ r1)) [] [0, 1] dL_lay_3 ⟨cd_L_cell, sm_L_cell, ini_L⟩ ml_L_9 (G_cell sL a3 x4 r1 h1) ⟨rfl, pd_L_cell⟩ ⟨Nat.le_of_ble_eq_true rfl, Nat.le_of_ble_eq_true rfl⟩ ⟨rfl, rfl⟩ rfl rfl rfl rfl rfl (by decide) (Or.inl ⟨[0], rfl⟩) rfl (Nat.le_of_ble_eq_true rfl) (fun v9 σ9 as9 hF9 => ?_)
  obtain ⟨rfl, e9, rfl⟩ := hF9; replace e9 := e9.symm; subst e9
  show LR l cL_lay 15 (some .int) (wsU yL_lay cL_lay 15 (some .int)) rmL_lay 0 0 ad [(q3, sL, a3)] (RetE cL_lay (some .int) 0 (FW q1 44 q2 45 r)) 6 [(0, .ref (ad 0)), (1, .ref q1), (2, .ref q2), (3, .ref q3), (4, .int x4), (5, .int x5), (6, .int x6)] [.int r1] σ [(q1, 44, a1), (q2, 45, a2)] 0
  refine LR.istore (pc := 6) (L2 := [(7, .int r1), (0, .ref (ad 0)), (1, .ref q1), (2, .ref q2), (3, .ref q3), (4, .int x4), (5, .int x5), (6, .int x6)]) dL_lay_6 (by decide) rfl ?_
  refine LR.aload_n (pc := 8) (j := 2) dL_lay_8 rfl rfl ?_
  refine LR.iconst (pc := 9) (v := 0) dL_lay_9 (by decide) ?_
  refine LR.iconst (pc := 10) (v := 2) dL_lay_10 (by decide) ?_
  refine LR.iload (pc := 11) (j := 0) dL_lay_11 rfl ?_
  refine LR.iload (pc := 13) (j := 6) dL_lay_13 rfl ?_
  refine LR.iconst (pc := 15) (v := 1) dL_lay_15 (by decide) ?_
  refine LR.isub (pc := 16) dL_lay_16 ?_
  obtain ⟨r2, h2, h⟩ := bd_some h
  refine LR.callS0 (pc := 17) (As := [.int r1, .int (x5 - 1)]) (st := [.int 2, .int 0, .ref q1]) (as2 := []) (asR := [(q1, 44, a1), (q2, 45, a2)]) (ro2 := []) (mg := 0) (FIN := (FI σ r2)) [] [0, 1] dL_lay_17 ⟨cd_L_low, sm_L_low, ini_L⟩ ml_L_15 (G_low r1 (x5 - 1) r2 h2) ⟨rfl, pd_L_low⟩ ⟨Nat.le_of_ble_eq_true rfl, Nat.le_of_ble_eq_true rfl⟩ ⟨rfl, rfl⟩ rfl rfl rfl rfl rfl (by decide) (Or.inl ⟨[], rfl⟩) rfl (Nat.le_of_ble_eq_true rfl) (fun v9 σ9 as9 hF9 => ?_)
  obtain ⟨rfl, e9, rfl⟩ := hF9; replace e9 := e9.symm; subst e9
  show LR l cL_lay 15 (some .int) (wsU yL_lay cL_lay 15 (some .int)) rmL_lay 0 0 ad [(q3, sL, a3)] (RetE cL_lay (some .int) 0 (FW q1 44 q2 45 r)) 20 [(7, .int r1), (0, .ref (ad 0)), (1, .ref q1), (2, .ref q2), (3, .ref q3), (4, .int x4), (5, .int x5), (6, .int x6)] [.int r2, .int 2, .int 0, .ref q1] σ [(q1, 44, a1), (q2, 45, a2)] 0
  refine LR.iadd (pc := 20) dL_lay_20 ?_
  obtain ⟨b3, e3, h⟩ := bd_some h
  replace e3 := Option.some.inj e3
  refine LR.iastore (pc := 21) (j := 0) (as2 := [(q1, 44, b3), (q2, 45, a2)]) dL_lay_21 rfl (by decide) (by subst e3; rfl) ?_
  refine LR.aload_n (pc := 22) (j := 2) dL_lay_22 rfl rfl ?_
  refine LR.iconst (pc := 23) (v := 1) dL_lay_23 (by decide) ?_
  refine LR.iconst (pc := 24) (v := 1) dL_lay_24 (by decide) ?_
  refine LR.iload (pc := 25) (j := 0) dL_lay_25 rfl ?_
  refine LR.iconst (pc := 27) (v := 3) dL_lay_27 (by decide) ?_
  refine LR.ishr (pc := 28) dL_lay_28 ?_
  refine LR.bipush (pc := 29) (v := 99) dL_lay_29 (by decide) ?_
  obtain ⟨r4, h4, h⟩ := bd_some h
  refine LR.callS0 (pc := 31) (As := [.int (r1 >>> (3 &&& 31)), .int 99]) (st := [.int 1, .int 1, .ref q1]) (as2 := []) (asR := [(q1, 44, b3), (q2, 45, a2)]) (ro2 := []) (mg := 0) (FIN := (FI σ r4)) [] [0, 1] dL_lay_31 ⟨cd_L_low, sm_L_low, ini_L⟩ ml_L_15 (G_low (r1 >>> (3 &&& 31)) 99 r4 h4) ⟨rfl, pd_L_low⟩ ⟨Nat.le_of_ble_eq_true rfl, Nat.le_of_ble_eq_true rfl⟩ ⟨rfl, rfl⟩ rfl rfl rfl rfl rfl (by decide) (Or.inl ⟨[], rfl⟩) rfl (Nat.le_of_ble_eq_true rfl) (fun v9 σ9 as9 hF9 => ?_)
  obtain ⟨rfl, e9, rfl⟩ := hF9; replace e9 := e9.symm; subst e9
  show LR l cL_lay 15 (some .int) (wsU yL_lay cL_lay 15 (some .int)) rmL_lay 0 0 ad [(q3, sL, a3)] (RetE cL_lay (some .int) 0 (FW q1 44 q2 45 r)) 34 [(7, .int r1), (0, .ref (ad 0)), (1, .ref q1), (2, .ref q2), (3, .ref q3), (4, .int x4), (5, .int x5), (6, .int x6)] [.int r4, .int 1, .int 1, .ref q1] σ [(q1, 44, b3), (q2, 45, a2)] 0
  refine LR.iadd (pc := 34) dL_lay_34 ?_
  obtain ⟨b5, e5, h⟩ := bd_some h
  replace e5 := Option.some.inj e5
  refine LR.iastore (pc := 35) (j := 0) (as2 := [(q1, 44, b5), (q2, 45, a2)]) dL_lay_35 rfl (by decide) (by subst e5; rfl) ?_
  refine LR.aload_n (pc := 36) (j := 2) dL_lay_36 rfl rfl ?_
  refine LR.iconst (pc := 37) (v := 2) dL_lay_37 (by decide) ?_
  refine LR.iload (pc := 38) (j := 0) dL_lay_38 rfl ?_
  refine LR.bipush (pc := 40) (v := 10) dL_lay_40 (by decide) ?_
  refine LR.ishr (pc := 42) dL_lay_42 ?_
  refine LR.bipush (pc := 43) (v := 10) dL_lay_43 (by decide) ?_
  obtain ⟨r6, h6, h⟩ := bd_some h
  refine LR.callS0 (pc := 45) (As := [.int (r1 >>> (10 &&& 31)), .int 10]) (st := [.int 2, .ref q1]) (as2 := []) (asR := [(q1, 44, b5), (q2, 45, a2)]) (ro2 := []) (mg := 0) (FIN := (FI σ r6)) [] [0, 1] dL_lay_45 ⟨cd_L_low, sm_L_low, ini_L⟩ ml_L_15 (G_low (r1 >>> (10 &&& 31)) 10 r6 h6) ⟨rfl, pd_L_low⟩ ⟨Nat.le_of_ble_eq_true rfl, Nat.le_of_ble_eq_true rfl⟩ ⟨rfl, rfl⟩ rfl rfl rfl rfl rfl (by decide) (Or.inl ⟨[], rfl⟩) rfl (Nat.le_of_ble_eq_true rfl) (fun v9 σ9 as9 hF9 => ?_)
  obtain ⟨rfl, e9, rfl⟩ := hF9; replace e9 := e9.symm; subst e9
  show LR l cL_lay 15 (some .int) (wsU yL_lay cL_lay 15 (some .int)) rmL_lay 0 0 ad [(q3, sL, a3)] (RetE cL_lay (some .int) 0 (FW q1 44 q2 45 r)) 48 [(7, .int r1), (0, .ref (ad 0)), (1, .ref q1), (2, .ref q2), (3, .ref q3), (4, .int x4), (5, .int x5), (6, .int x6)] [.int r6, .int 2, .ref q1] σ [(q1, 44, b5), (q2, 45, a2)] 0
  obtain ⟨b7, e7, h⟩ := bd_some h
  replace e7 := Option.some.inj e7
  refine LR.iastore (pc := 48) (j := 0) (as2 := [(q1, 44, b7), (q2, 45, a2)]) dL_lay_48 rfl (by decide) (by subst e7; rfl) ?_
  refine LR.aload_n (pc := 49) (j := 2) dL_lay_49 rfl rfl ?_
  refine LR.iconst (pc := 50) (v := 3) dL_lay_50 (by decide) ?_
  refine LR.iconst (pc := 51) (v := 0) dL_lay_51 (by decide) ?_
  obtain ⟨b8, e8, h⟩ := bd_some h
  replace e8 := Option.some.inj e8
  refine LR.iastore (pc := 52) (j := 0) (as2 := [(q1, 44, b8), (q2, 45, a2)]) dL_lay_52 rfl (by decide) (by subst e8; rfl) ?_
  refine LR.aload_n (pc := 53) (j := 1) dL_lay_53 rfl rfl ?_
  refine LR.iconst (pc := 54) (v := 0) dL_lay_54 (by decide) ?_
  refine LR.iconst (pc := 55) (v := 0) dL_lay_55 (by decide) ?_
  refine LR.bipush (pc := 56) (v := 106) dL_lay_56 (by decide) ?_
  obtain ⟨r9, h9, h⟩ := bd_some h
  refine LR.callV (pc := 58) (As := [.int 0, .int 0, .int 106]) (st := []) (ci := 8) dL_lay_58 ⟨cd_X8_put, im_X8_put, se_X8_put, ini_X8⟩ ml_L_19 (A8_put 0 0 106 σ _ h9) rfl rfl ⟨rfl, pd_X8_put⟩ ⟨Nat.le_of_ble_eq_true rfl, Nat.le_of_ble_eq_true rfl⟩ ⟨rfl, rfl⟩ rfl rfl rfl (Nat.le_of_ble_eq_true rfl) ?_
  refine LR.iconst (pc := 61) (v := 1) dL_lay_61 (by decide) ?_
  refine LR.icmp_ne (pc := 62) (tgt := 147) dL_lay_62 (by decide) (fun c10 => ?_) (fun c10 => ?_)
  · replace h := ite_f c10 h
    exact LR.pick [1, 2, 3, 4, 5, 7] rfl (G_lay_147 sL a3 b8 a2 x4 x6 (r9.2) r h)
  · replace h := ite_t c10 h
    refine LR.aload_n (pc := 65) (j := 1) dL_lay_65 rfl rfl ?_
    refine LR.iconst (pc := 66) (v := 0) dL_lay_66 (by decide) ?_
    refine LR.iconst (pc := 67) (v := 1) dL_lay_67 (by decide) ?_
    refine LR.bipush (pc := 68) (v := 48) dL_lay_68 (by decide) ?_
    refine LR.aload_n (pc := 70) (j := 2) dL_lay_70 rfl rfl ?_
    refine LR.iconst (pc := 71) (v := 1) dL_lay_71 (by decide) ?_
    refine LR.iaload (pc := 72) (j := 0) dL_lay_72 rfl (by decide) ?_
    refine LR.bipush (pc := 73) (v := 10) dL_lay_73 (by decide) ?_
    refine LR.idiv (pc := 75) dL_lay_75 (by decide) ?_
    refine LR.iadd (pc := 76) dL_lay_76 ?_
    obtain ⟨r11, h11, h⟩ := bd_some h
    refine LR.callV (pc := 77) (As := [.int 0, .int 1, .int (48 + ((b8 (1 : Int32).toNatClampNeg) / 10))]) (st := []) (ci := 8) dL_lay_77 ⟨cd_X8_put, im_X8_put, se_X8_put, ini_X8⟩ ml_L_19 (A8_put 0 1 (48 + ((b8 (1 : Int32).toNatClampNeg) / 10)) (r9.2) _ h11) rfl rfl ⟨rfl, pd_X8_put⟩ ⟨Nat.le_of_ble_eq_true rfl, Nat.le_of_ble_eq_true rfl⟩ ⟨rfl, rfl⟩ rfl rfl rfl (Nat.le_of_ble_eq_true rfl) ?_
    refine LR.iconst (pc := 80) (v := 1) dL_lay_80 (by decide) ?_
    refine LR.icmp_ne (pc := 81) (tgt := 147) dL_lay_81 (by decide) (fun c12 => ?_) (fun c12 => ?_)
    · replace h := ite_f c12 h
      exact LR.pick [1, 2, 3, 4, 5, 7] rfl (G_lay_147 sL a3 b8 a2 x4 x6 (r11.2) r h)
    · replace h := ite_t c12 h
      refine LR.aload_n (pc := 84) (j := 1) dL_lay_84 rfl rfl ?_
      refine LR.iconst (pc := 85) (v := 0) dL_lay_85 (by decide) ?_
      refine LR.iconst (pc := 86) (v := 2) dL_lay_86 (by decide) ?_
      refine LR.bipush (pc := 87) (v := 48) dL_lay_87 (by decide) ?_
      refine LR.aload_n (pc := 89) (j := 2) dL_lay_89 rfl rfl ?_
      refine LR.iconst (pc := 90) (v := 1) dL_lay_90 (by decide) ?_
      refine LR.iaload (pc := 91) (j := 0) dL_lay_91 rfl (by decide) ?_
      refine LR.bipush (pc := 92) (v := 10) dL_lay_92 (by decide) ?_
      refine LR.irem (pc := 94) dL_lay_94 (by decide) ?_
      refine LR.iadd (pc := 95) dL_lay_95 ?_
      obtain ⟨r13, h13, h⟩ := bd_some h
      refine LR.callV (pc := 96) (As := [.int 0, .int 2, .int (48 + ((b8 (1 : Int32).toNatClampNeg) - (b8 (1 : Int32).toNatClampNeg) / 10 * 10))]) (st := []) (ci := 8) dL_lay_96 ⟨cd_X8_put, im_X8_put, se_X8_put, ini_X8⟩ ml_L_19 (A8_put 0 2 (48 + ((b8 (1 : Int32).toNatClampNeg) - (b8 (1 : Int32).toNatClampNeg) / 10 * 10)) (r11.2) _ h13) rfl rfl ⟨rfl, pd_X8_put⟩ ⟨Nat.le_of_ble_eq_true rfl, Nat.le_of_ble_eq_true rfl⟩ ⟨rfl, rfl⟩ rfl rfl rfl (Nat.le_of_ble_eq_true rfl) ?_
      refine LR.iconst (pc := 99) (v := 1) dL_lay_99 (by decide) ?_
      refine LR.icmp_ne (pc := 100) (tgt := 147) dL_lay_100 (by decide) (fun c14 => ?_) (fun c14 => ?_)
      · replace h := ite_f c14 h
        exact LR.pick [1, 2, 3, 4, 5, 7] rfl (G_lay_147 sL a3 b8 a2 x4 x6 (r13.2) r h)
      · replace h := ite_t c14 h
        refine LR.aload_n (pc := 103) (j := 1) dL_lay_103 rfl rfl ?_
        refine LR.iconst (pc := 104) (v := 0) dL_lay_104 (by decide) ?_
        refine LR.iconst (pc := 105) (v := 3) dL_lay_105 (by decide) ?_
        refine LR.bipush (pc := 106) (v := 59) dL_lay_106 (by decide) ?_
        obtain ⟨r15, h15, h⟩ := bd_some h
        refine LR.callV (pc := 108) (As := [.int 0, .int 3, .int 59]) (st := []) (ci := 8) dL_lay_108 ⟨cd_X8_put, im_X8_put, se_X8_put, ini_X8⟩ ml_L_19 (A8_put 0 3 59 (r13.2) _ h15) rfl rfl ⟨rfl, pd_X8_put⟩ ⟨Nat.le_of_ble_eq_true rfl, Nat.le_of_ble_eq_true rfl⟩ ⟨rfl, rfl⟩ rfl rfl rfl (Nat.le_of_ble_eq_true rfl) ?_
        refine LR.iconst (pc := 111) (v := 1) dL_lay_111 (by decide) ?_
        refine LR.icmp_ne (pc := 112) (tgt := 147) dL_lay_112 (by decide) (fun c16 => ?_) (fun c16 => ?_)
        · replace h := ite_f c16 h
          exact LR.pick [1, 2, 3, 4, 5, 7] rfl (G_lay_147 sL a3 b8 a2 x4 x6 (r15.2) r h)
        · replace h := ite_t c16 h
          refine LR.aload_n (pc := 115) (j := 1) dL_lay_115 rfl rfl ?_
          refine LR.iconst (pc := 116) (v := 0) dL_lay_116 (by decide) ?_
          refine LR.iconst (pc := 117) (v := 4) dL_lay_117 (by decide) ?_
          refine LR.bipush (pc := 118) (v := 108) dL_lay_118 (by decide) ?_
          obtain ⟨r17, h17, h⟩ := bd_some h
          refine LR.callV (pc := 120) (As := [.int 0, .int 4, .int 108]) (st := []) (ci := 8) dL_lay_120 ⟨cd_X8_put, im_X8_put, se_X8_put, ini_X8⟩ ml_L_19 (A8_put 0 4 108 (r15.2) _ h17) rfl rfl ⟨rfl, pd_X8_put⟩ ⟨Nat.le_of_ble_eq_true rfl, Nat.le_of_ble_eq_true rfl⟩ ⟨rfl, rfl⟩ rfl rfl rfl (Nat.le_of_ble_eq_true rfl) ?_
          refine LR.iconst (pc := 123) (v := 1) dL_lay_123 (by decide) ?_
          refine LR.icmp_ne (pc := 124) (tgt := 147) dL_lay_124 (by decide) (fun c18 => ?_) (fun c18 => ?_)
          · replace h := ite_f c18 h
            exact LR.pick [1, 2, 3, 4, 5, 7] rfl (G_lay_147 sL a3 b8 a2 x4 x6 (r17.2) r h)
          · replace h := ite_t c18 h
            refine LR.aload_n (pc := 127) (j := 1) dL_lay_127 rfl rfl ?_
            refine LR.iconst (pc := 128) (v := 0) dL_lay_128 (by decide) ?_
            refine LR.iconst (pc := 129) (v := 5) dL_lay_129 (by decide) ?_
            refine LR.bipush (pc := 130) (v := 48) dL_lay_130 (by decide) ?_
            refine LR.aload_n (pc := 132) (j := 2) dL_lay_132 rfl rfl ?_
            refine LR.iconst (pc := 133) (v := 2) dL_lay_133 (by decide) ?_
            refine LR.iaload (pc := 134) (j := 0) dL_lay_134 rfl (by decide) ?_
            refine LR.iadd (pc := 135) dL_lay_135 ?_
            obtain ⟨r19, h19, h⟩ := bd_some h
            refine LR.callV (pc := 136) (As := [.int 0, .int 5, .int (48 + (b8 (2 : Int32).toNatClampNeg))]) (st := []) (ci := 8) dL_lay_136 ⟨cd_X8_put, im_X8_put, se_X8_put, ini_X8⟩ ml_L_19 (A8_put 0 5 (48 + (b8 (2 : Int32).toNatClampNeg)) (r17.2) _ h19) rfl rfl ⟨rfl, pd_X8_put⟩ ⟨Nat.le_of_ble_eq_true rfl, Nat.le_of_ble_eq_true rfl⟩ ⟨rfl, rfl⟩ rfl rfl rfl (Nat.le_of_ble_eq_true rfl) ?_
            refine LR.iconst (pc := 139) (v := 1) dL_lay_139 (by decide) ?_
            refine LR.icmp_ne (pc := 140) (tgt := 147) dL_lay_140 (by decide) (fun c20 => ?_) (fun c20 => ?_)
            · replace h := ite_f c20 h
              exact LR.pick [1, 2, 3, 4, 5, 7] rfl (G_lay_147 sL a3 b8 a2 x4 x6 (r19.2) r h)
            · replace h := ite_t c20 h
              refine LR.iconst (pc := 143) (v := 1) dL_lay_143 (by decide) ?_
              refine LR.goto (pc := 144) (tgt := 148) dL_lay_144 (by decide) ?_
              exact LR.pick [1, 2, 3, 4, 5, 7] rfl (G_lay_148 sL a3 b8 a2 x4 x6 1 (r19.2) r h)
