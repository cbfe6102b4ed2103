set_option maxHeartbeats 4000000 in
set_option maxRecDepth 100000 in
theorem A5_isRather {l : Launch} (x0 : Int32) (x1 : Int32) (x2 : Int32) (σ : HS) (r : Int32 × HS) (h : f5_isRather x0 x1 x2 σ = some r) : MA l yX5_isRather (wsU yX5_isRather cX5_isRather 3 (some .boolean)) rm5_isRather SC [.int x0, .int x1, .int x2] σ (some (.int r.1), r.2) := by
  refine MA.of (L := [(0, .int x0), (1, .int x1), (2, .int x2)]) pn_X5_isRather rfl (fun _ => Nat.le_of_ble_eq_true rfl) (fun _ => rfl) ?_
  unfold f5_isRather at h
  refine AR.iload_n (pc := 0) (j := 0) dX5_isRather_0 rfl rfl ?_
  refine AR.if_ne (pc := 1) (tgt := 17) dX5_isRather_1 (by decide) (fun c1 => ?_) (fun c1 => ?_)
  · replace h := ite_f c1 h
    refine AR.iload_n (pc := 17) (j := 1) dX5_isRather_17 rfl rfl ?_
    refine AR.iload_n (pc := 18) (j := 2) dX5_isRather_18 rfl rfl ?_
    refine AR.icmp_ge (pc := 19) (tgt := 26) dX5_isRather_19 (by decide) (fun c2 => ?_) (fun c2 => ?_)
    · replace h := ite_t c2 h
      refine AR.iconst (pc := 26) (v := 0) dX5_isRather_26 (by decide) ?_
      exact AR.zret (pc := 27) rfl (Or.inl rfl) dX5_isRather_27 (hrI (Option.some.inj h))
    · replace h := ite_f c2 h
      refine AR.iconst (pc := 22) (v := 1) dX5_isRather_22 (by decide) ?_
      refine AR.goto (pc := 23) (tgt := 27) dX5_isRather_23 (by decide) ?_
      exact AR.zret (pc := 27) rfl (Or.inr rfl) dX5_isRather_27 (hrI (Option.some.inj h))
  · replace h := ite_t c1 h
    refine AR.iload_n (pc := 4) (j := 1) dX5_isRather_4 rfl rfl ?_
    refine AR.iload_n (pc := 5) (j := 2) dX5_isRather_5 rfl rfl ?_
    refine AR.icmp_le (pc := 6) (tgt := 13) dX5_isRather_6 (by decide) (fun c3 => ?_) (fun c3 => ?_)
    · replace h := ite_t c3 h
      refine AR.iconst (pc := 13) (v := 0) dX5_isRather_13 (by decide) ?_
      refine AR.goto (pc := 14) (tgt := 27) dX5_isRather_14 (by decide) ?_
      exact AR.zret (pc := 27) rfl (Or.inl rfl) dX5_isRather_27 (hrI (Option.some.inj h))
    · replace h := ite_f c3 h
      refine AR.iconst (pc := 9) (v := 1) dX5_isRather_9 (by decide) ?_
      refine AR.goto (pc := 10) (tgt := 27) dX5_isRather_10 (by decide) ?_
      exact AR.zret (pc := 27) rfl (Or.inr rfl) dX5_isRather_27 (hrI (Option.some.inj h))
set_option maxHeartbeats 4000000 in
set_option maxRecDepth 100000 in
theorem A8_setLong {l : Launch} (k n : Nat) (hk : SC[k]? = some (1, n, [])) (x1 : Int32) (x2 : Int64) (σ : HS) (r : HS) (h : f8_setLong k n x1 x2 σ = some r) : MA l yX8_setLong (wsU yX8_setLong cX8_setLong 4 none) rm8_setLong SC [.ref k, .int x1, .long x2] σ (none, r) := by
  refine MA.of (L := [(0, .ref k), (1, .int x1), (2, .long x2)]) pn_X8_setLong rfl (fun _ => Nat.le_of_ble_eq_true rfl) (fun _ => rfl) ?_
  unfold f8_setLong at h
  refine AR.aload_n (pc := 0) (j := 0) dX8_setLong_0 rfl rfl ?_
  refine AR.ifnull (pc := 1) dX8_setLong_1 ?_
  refine AR.iload_n (pc := 4) (j := 1) dX8_setLong_4 rfl rfl ?_
  refine AR.if_lt (pc := 5) (tgt := 18) dX8_setLong_5 (by decide) (fun c1 => ?_) (fun c1 => ?_)
  · replace h := ite_t c1 h
    exact AR.vret (pc := 18) rfl dX8_setLong_18 (hrV (Option.some.inj h))
  · replace h := ite_f c1 h
    refine AR.iload_n (pc := 8) (j := 1) dX8_setLong_8 rfl rfl ?_
    refine AR.aload_n (pc := 9) (j := 0) dX8_setLong_9 rfl rfl ?_
    refine AR.alenL (pc := 10) dX8_setLong_10 hk ?_
    refine AR.icmp_ge (pc := 11) (tgt := 18) dX8_setLong_11 (by decide) (fun c2 => ?_) (fun c2 => ?_)
    · replace h := ite_t c2 h
      exact AR.vret (pc := 18) rfl dX8_setLong_18 (hrV (Option.some.inj h))
    · replace h := ite_f c2 h
      refine AR.aload_n (pc := 14) (j := 0) dX8_setLong_14 rfl rfl ?_
      refine AR.iload_n (pc := 15) (j := 1) dX8_setLong_15 rfl rfl ?_
      refine AR.lload_n (pc := 16) (j := 2) dX8_setLong_16 rfl rfl ?_
      obtain ⟨c3, h⟩ := gn_some h
      refine AR.lastore (pc := 17) dX8_setLong_17 hk c3 ?_
      exact AR.vret (pc := 18) rfl dX8_setLong_18 (hrV (Option.some.inj h))
set_option maxHeartbeats 4000000 in
set_option maxRecDepth 100000 in
theorem A5_settle_239 {l : Launch} (g : Nat) (hg : Grp g) (x1 : Int32) (x2 : Int32) (x7 : Int32) (x9 : Int64) (σ : HS) (r : HS) (h : f5_settle_239 g x1 x2 x7 x9 σ = some r) : AR l RX5 cX5_settle 18 none (wsU yX5_settle cX5_settle 18 none) rm5_settle SC 239 [(0, .ref (g + 2)), (1, .int x1), (2, .int x2), (7, .int x7), (9, .long x9)] [] σ (none, r) := by
  unfold f5_settle_239 at h
  refine AR.aload_n (pc := 239) (j := 0) dX5_settle_239 rfl rfl ?_
  refine AR.getf (pc := 240) (ci := 5) (j := 2) (d := (g + 3) + 2) (v := .ref (g + 3)) (T := TX5) dX5_settle_240 (gr2 hg) rfl rfl (by decide) (fun w hw => wsU_in (uw_X5 w hw)) (wsU_in fl_X5_11) rfl ?_
  refine AR.iload_n (pc := 243) (j := 1) dX5_settle_243 rfl rfl ?_
  refine AR.iload_n (pc := 244) (j := 2) dX5_settle_244 rfl rfl ?_
  obtain ⟨r1, h1, h⟩ := bd_some h
  refine AR.callS (pc := 245) (As := [.int x1, .int x2]) (st := [.ref (g + 3)]) dX5_settle_245 ⟨cd_X5_stateOf, sm_X5_stateOf, ini_X5⟩ ml_X5_92 (A5_stateOf x1 x2 σ _ h1) ⟨rfl, pd_X5_stateOf⟩ ⟨Nat.le_of_ble_eq_true rfl, Nat.le_of_ble_eq_true rfl⟩ ⟨rfl, rfl⟩ rfl (Nat.le_of_ble_eq_true rfl) ?_
  refine AR.iload (pc := 248) (j := 3) dX5_settle_248 rfl ?_
  obtain ⟨r2, h2, h⟩ := bd_some h
  refine AR.callSN (pc := 250) (As := [.ref (g + 3), .int (r1.1), .int x7]) (st := []) dX5_settle_250 ⟨cd_X8_set, sm_X8_set, ini_X8⟩ mn_X5_95 (A8_set (g + 3) 600 (gr3 hg) (r1.1) x7 (r1.2) _ h2) pd_X8_set ⟨Nat.le_of_ble_eq_true rfl, Nat.le_of_ble_eq_true rfl⟩ ⟨rfl, rfl⟩ rfl (Nat.le_of_ble_eq_true rfl) ?_
  refine AR.aload_n (pc := 253) (j := 0) dX5_settle_253 rfl rfl ?_
  refine AR.getf (pc := 254) (ci := 5) (j := 3) (d := (g + 4) + 2) (v := .ref (g + 4)) (T := TX5) dX5_settle_254 (gr2 hg) rfl rfl (by decide) (fun w hw => wsU_in (uw_X5 w hw)) (wsU_in fl_X5_15) rfl ?_
  refine AR.iload_n (pc := 257) (j := 1) dX5_settle_257 rfl rfl ?_
  refine AR.iload_n (pc := 258) (j := 2) dX5_settle_258 rfl rfl ?_
  obtain ⟨r3, h3, h⟩ := bd_some h
  refine AR.callS (pc := 259) (As := [.int x1, .int x2]) (st := [.ref (g + 4)]) dX5_settle_259 ⟨cd_X5_stateOf, sm_X5_stateOf, ini_X5⟩ ml_X5_92 (A5_stateOf x1 x2 r2 _ h3) ⟨rfl, pd_X5_stateOf⟩ ⟨Nat.le_of_ble_eq_true rfl, Nat.le_of_ble_eq_true rfl⟩ ⟨rfl, rfl⟩ rfl (Nat.le_of_ble_eq_true rfl) ?_
  refine AR.lload (pc := 262) (j := 4) dX5_settle_262 rfl ?_
  obtain ⟨r4, h4, h⟩ := bd_some h
  refine AR.callSN (pc := 264) (As := [.ref (g + 4), .int (r3.1), .long x9]) (st := []) dX5_settle_264 ⟨cd_X8_setLong, sm_X8_setLong, ini_X8⟩ mn_X5_125 (A8_setLong (g + 4) 600 (gr4 hg) (r3.1) x9 (r3.2) _ h4) pd_X8_setLong ⟨Nat.le_of_ble_eq_true rfl, Nat.le_of_ble_eq_true rfl⟩ ⟨rfl, rfl⟩ rfl (Nat.le_of_ble_eq_true rfl) ?_
  exact AR.vret (pc := 267) rfl dX5_settle_267 (hrV (Option.some.inj h))
set_option maxHeartbeats 4000000 in
set_option maxRecDepth 100000 in
theorem A5_settle_233 {l : Launch} (g : Nat) (hg : Grp g) (k73 : Int32 × Int32 × Int64 × Int32 × HS → Option (HS)) (x1 : Int32) (x2 : Int32) (x3 : Int32) (x4 : Int32) (x5 : Int32) (x6 : Int32) (x7 : Int32) (x8 : Int32) (x9 : Int64) (x11 : Int32) (hk73 : ∀ (p : Int32 × Int32 × Int64 × Int32 × HS) (r : HS), k73 p = some r → AR l RX5 cX5_settle 18 none (wsU yX5_settle cX5_settle 18 none) rm5_settle SC 73 [(0, .ref (g + 2)), (1, .int x1), (2, .int x2), (3, .int x3), (4, .int x4), (5, .int x5), (6, .int x6), (7, .int (p.1)), (8, .int (p.2.1)), (9, .long (p.2.2.1)), (11, .int (p.2.2.2.1))] [] p.2.2.2.2 (none, r)) (σ : HS) (r : HS) (h : f5_settle_233 g k73 x1 x2 x3 x4 x5 x6 x7 x8 x9 x11 σ = some r) : AR l RX5 cX5_settle 18 none (wsU yX5_settle cX5_settle 18 none) rm5_settle SC 233 [(0, .ref (g + 2)), (1, .int x1), (2, .int x2), (3, .int x3), (4, .int x4), (5, .int x5), (6, .int x6), (7, .int x7), (8, .int x8), (9, .long x9), (11, .int x11)] [] σ (none, r) := by
  unfold f5_settle_233 at h
  refine AR.iinc (pc := 233) (j := 10) (v := (x11 + 1)) (L2 := [(11, .int (x11 + 1)), (0, .ref (g + 2)), (1, .int x1), (2, .int x2), (3, .int x3), (4, .int x4), (5, .int x5), (6, .int x6), (7, .int x7), (8, .int x8), (9, .long x9)]) dX5_settle_233 rfl rfl (by decide) rfl ?_
  refine AR.goto (pc := 236) (tgt := 73) dX5_settle_236 (by decide) ?_
  exact AR.pick [1, 2, 3, 4, 5, 6, 7, 8, 9, 10, 0] rfl (hk73 (x7, x8, x9, (x11 + 1), σ) r h)
set_option maxHeartbeats 4000000 in
set_option maxRecDepth 100000 in
theorem A5_settle_221 {l : Launch} (g : Nat) (hg : Grp g) (k73 : Int32 × Int32 × Int64 × Int32 × HS → Option (HS)) (x1 : Int32) (x2 : Int32) (x3 : Int32) (x4 : Int32) (x5 : Int32) (x6 : Int32) (x11 : Int32) (x12 : Int32) (x14 : Int64) (hk73 : ∀ (p : Int32 × Int32 × Int64 × Int32 × HS) (r : HS), k73 p = some r → AR l RX5 cX5_settle 18 none (wsU yX5_settle cX5_settle 18 none) rm5_settle SC 73 [(0, .ref (g + 2)), (1, .int x1), (2, .int x2), (3, .int x3), (4, .int x4), (5, .int x5), (6, .int x6), (7, .int (p.1)), (8, .int (p.2.1)), (9, .long (p.2.2.1)), (11, .int (p.2.2.2.1))] [] p.2.2.2.2 (none, r)) (σ : HS) (r : HS) (h : f5_settle_221 g k73 x1 x2 x3 x4 x5 x6 x11 x12 x14 σ = some r) : AR l RX5 cX5_settle 18 none (wsU yX5_settle cX5_settle 18 none) rm5_settle SC 221 [(0, .ref (g + 2)), (1, .int x1), (2, .int x2), (3, .int x3), (4, .int x4), (5, .int x5), (6, .int x6), (11, .int x11), (12, .int x12), (14, .long x14)] [] σ (none, r) := by
  unfold f5_settle_221 at h
  refine AR.iload (pc := 221) (j := 7) dX5_settle_221 rfl ?_
  refine AR.istore (pc := 223) (L2 := [(7, .int x11), (0, .ref (g + 2)), (1, .int x1), (2, .int x2), (3, .int x3), (4, .int x4), (5, .int x5), (6, .int x6), (11, .int x11), (12, .int x12), (14, .long x14)]) dX5_settle_223 (by decide) rfl ?_
  refine AR.iload (pc := 225) (j := 9) dX5_settle_225 rfl ?_
  refine AR.istore (pc := 227) (L2 := [(8, .int x12), (7, .int x11), (0, .ref (g + 2)), (1, .int x1), (2, .int x2), (3, .int x3), (4, .int x4), (5, .int x5), (6, .int x6), (11, .int x11), (12, .int x12), (14, .long x14)]) dX5_settle_227 (by decide) rfl ?_
  refine AR.lload (pc := 229) (j := 11) dX5_settle_229 rfl ?_
  refine AR.lstore (pc := 231) (L2 := [(9, .long x14), (8, .int x12), (7, .int x11), (0, .ref (g + 2)), (1, .int x1), (2, .int x2), (3, .int x3), (4, .int x4), (5, .int x5), (6, .int x6), (11, .int x11), (12, .int x12), (14, .long x14)]) dX5_settle_231 (by decide) rfl ?_
  exact AR.pick [3, 4, 5, 6, 7, 8, 9, 2, 1, 0, 10] rfl (A5_settle_233 g hg k73 x1 x2 x3 x4 x5 x6 x11 x12 x14 x11 hk73 σ r h)
set_option maxHeartbeats 4000000 in
set_option maxRecDepth 100000 in
theorem A5_settle_204 {l : Launch} (g : Nat) (hg : Grp g) (k73 : Int32 × Int32 × Int64 × Int32 × HS → Option (HS)) (x1 : Int32) (x2 : Int32) (x3 : Int32) (x4 : Int32) (x5 : Int32) (x6 : Int32) (x7 : Int32) (x8 : Int32) (x9 : Int64) (x11 : Int32) (x12 : Int32) (x14 : Int64) (x16 : Int32) (z0 : Int32) (hk73 : ∀ (p : Int32 × Int32 × Int64 × Int32 × HS) (r : HS), k73 p = some r → AR l RX5 cX5_settle 18 none (wsU yX5_settle cX5_settle 18 none) rm5_settle SC 73 [(0, .ref (g + 2)), (1, .int x1), (2, .int x2), (3, .int x3), (4, .int x4), (5, .int x5), (6, .int x6), (7, .int (p.1)), (8, .int (p.2.1)), (9, .long (p.2.2.1)), (11, .int (p.2.2.2.1))] [] p.2.2.2.2 (none, r)) (σ : HS) (r : HS) (h : f5_settle_204 g k73 x1 x2 x3 x4 x5 x6 x7 x8 x9 x11 x12 x14 x16 z0 σ = some r) : AR l RX5 cX5_settle 18 none (wsU yX5_settle cX5_settle 18 none) rm5_settle SC 204 [(0, .ref (g + 2)), (1, .int x1), (2, .int x2), (3, .int x3), (4, .int x4), (5, .int x5), (6, .int x6), (7, .int x7), (8, .int x8), (9, .long x9), (11, .int x11), (12, .int x12), (14, .long x14), (16, .int x16)] [.int z0] σ (none, r) := by
  unfold f5_settle_204 at h
  refine AR.istore (pc := 204) (L2 := [(17, .int z0), (0, .ref (g + 2)), (1, .int x1), (2, .int x2), (3, .int x3), (4, .int x4), (5, .int x5), (6, .int x6), (7, .int x7), (8, .int x8), (9, .long x9), (11, .int x11), (12, .int x12), (14, .long x14), (16, .int x16)]) dX5_settle_204 (by decide) rfl ?_
  refine AR.iload (pc := 206) (j := 14) dX5_settle_206 rfl ?_
  refine AR.if_gt (pc := 208) (tgt := 221) dX5_settle_208 (by decide) (fun c1 => ?_) (fun c1 => ?_)
  · replace h := ite_t c1 h
    exact AR.pick [1, 2, 3, 4, 5, 6, 7, 11, 12, 13] rfl (A5_settle_221 g hg k73 x1 x2 x3 x4 x5 x6 x11 x12 x14 hk73 σ r h)
  · replace h := ite_f c1 h
    refine AR.iload (pc := 211) (j := 14) dX5_settle_211 rfl ?_
    refine AR.if_ne (pc := 213) (tgt := 233) dX5_settle_213 (by decide) (fun c2 => ?_) (fun c2 => ?_)
    · replace h := ite_f c2 h
      exact AR.pick [1, 2, 3, 4, 5, 6, 7, 8, 9, 10, 11] rfl (A5_settle_233 g hg k73 x1 x2 x3 x4 x5 x6 x7 x8 x9 x11 hk73 σ r h)
    · replace h := ite_t c2 h
      refine AR.iload (pc := 216) (j := 0) dX5_settle_216 rfl ?_
      refine AR.if_eq (pc := 218) (tgt := 233) dX5_settle_218 (by decide) (fun c3 => ?_) (fun c3 => ?_)
      · replace h := ite_t c3 h
        exact AR.pick [1, 2, 3, 4, 5, 6, 7, 8, 9, 10, 11] rfl (A5_settle_233 g hg k73 x1 x2 x3 x4 x5 x6 x7 x8 x9 x11 hk73 σ r h)
      · replace h := ite_f c3 h
        exact AR.pick [1, 2, 3, 4, 5, 6, 7, 11, 12, 13] rfl (A5_settle_221 g hg k73 x1 x2 x3 x4 x5 x6 x11 x12 x14 hk73 σ r h)
set_option maxHeartbeats 4000000 in
set_option maxRecDepth 100000 in
theorem A5_settle_174 {l : Launch} (g : Nat) (hg : Grp g) (k73 : Int32 × Int32 × Int64 × Int32 × HS → Option (HS)) (x1 : Int32) (x2 : Int32) (x3 : Int32) (x4 : Int32) (x5 : Int32) (x6 : Int32) (x7 : Int32) (x8 : Int32) (x9 : Int64) (x11 : Int32) (x12 : Int32) (x14 : Int64) (z0 : Int32) (hk73 : ∀ (p : Int32 × Int32 × Int64 × Int32 × HS) (r : HS), k73 p = some r → AR l RX5 cX5_settle 18 none (wsU yX5_settle cX5_settle 18 none) rm5_settle SC 73 [(0, .ref (g + 2)), (1, .int x1), (2, .int x2), (3, .int x3), (4, .int x4), (5, .int x5), (6, .int x6), (7, .int (p.1)), (8, .int (p.2.1)), (9, .long (p.2.2.1)), (11, .int (p.2.2.2.1))] [] p.2.2.2.2 (none, r)) (σ : HS) (r : HS) (h : f5_settle_174 g k73 x1 x2 x3 x4 x5 x6 x7 x8 x9 x11 x12 x14 z0 σ = some r) : AR l RX5 cX5_settle 18 none (wsU yX5_settle cX5_settle 18 none) rm5_settle SC 174 [(0, .ref (g + 2)), (1, .int x1), (2, .int x2), (3, .int x3), (4, .int x4), (5, .int x5), (6, .int x6), (7, .int x7), (8, .int x8), (9, .long x9), (11, .int x11), (12, .int x12), (14, .long x14)] [.int z0] σ (none, r) := by
  unfold f5_settle_174 at h
  refine AR.istore (pc := 174) (L2 := [(16, .int z0), (0, .ref (g + 2)), (1, .int x1), (2, .int x2), (3, .int x3), (4, .int x4), (5, .int x5), (6, .int x6), (7, .int x7), (8, .int x8), (9, .long x9), (11, .int x11), (12, .int x12), (14, .long x14)]) dX5_settle_174 (by decide) rfl ?_
  refine AR.iload_n (pc := 176) (j := 4) dX5_settle_176 rfl rfl ?_
  refine AR.if_eq (pc := 177) (tgt := 195) dX5_settle_177 (by decide) (fun c1 => ?_) (fun c1 => ?_)
  · replace h := ite_t c1 h
    refine AR.iload (pc := 195) (j := 6) dX5_settle_195 rfl ?_
    refine AR.iload (pc := 197) (j := 12) dX5_settle_197 rfl ?_
    refine AR.iload (pc := 199) (j := 9) dX5_settle_199 rfl ?_
    obtain ⟨r2, h2, h⟩ := bd_some h
    refine AR.callS (pc := 201) (As := [.int x5, .int x12, .int x8]) (st := []) dX5_settle_201 ⟨cd_X5_isRather, sm_X5_isRather, ini_X5⟩ ml_X5_121 (A5_isRather x5 x12 x8 σ _ h2) ⟨rfl, pd_X5_isRather⟩ ⟨Nat.le_of_ble_eq_true rfl, Nat.le_of_ble_eq_true rfl⟩ ⟨rfl, rfl⟩ rfl (Nat.le_of_ble_eq_true rfl) ?_
    exact AR.pick [1, 2, 3, 4, 5, 6, 7, 8, 9, 10, 11, 12, 13, 0] rfl (A5_settle_204 g hg k73 x1 x2 x3 x4 x5 x6 x7 x8 x9 x11 x12 x14 z0 (r2.1) hk73 (r2.2) r h)
  · replace h := ite_f c1 h
    refine AR.iload (pc := 180) (j := 8) dX5_settle_180 rfl ?_
    refine AR.bipush (pc := 182) (v := (-9)) dX5_settle_182 (by decide) ?_
    refine AR.icmp_ne (pc := 184) (tgt := 191) dX5_settle_184 (by decide) (fun c3 => ?_) (fun c3 => ?_)
    · replace h := ite_f c3 h
      refine AR.iconst (pc := 191) (v := 0) dX5_settle_191 (by decide) ?_
      refine AR.goto (pc := 192) (tgt := 204) dX5_settle_192 (by decide) ?_
      exact AR.pick [1, 2, 3, 4, 5, 6, 7, 8, 9, 10, 11, 12, 13, 0] rfl (A5_settle_204 g hg k73 x1 x2 x3 x4 x5 x6 x7 x8 x9 x11 x12 x14 z0 0 hk73 σ r h)
    · replace h := ite_t c3 h
      refine AR.iconst (pc := 187) (v := 1) dX5_settle_187 (by decide) ?_
      refine AR.goto (pc := 188) (tgt := 204) dX5_settle_188 (by decide) ?_
      exact AR.pick [1, 2, 3, 4, 5, 6, 7, 8, 9, 10, 11, 12, 13, 0] rfl (A5_settle_204 g hg k73 x1 x2 x3 x4 x5 x6 x7 x8 x9 x11 x12 x14 z0 1 hk73 σ r h)
set_option maxHeartbeats 4000000 in
set_option maxRecDepth 100000 in
theorem A5_settle_73_b {l : Launch} (g : Nat) (hg : Grp g) (k73 : Int32 × Int32 × Int64 × Int32 × HS → Option (HS)) (x1 : Int32) (x2 : Int32) (x3 : Int32) (x4 : Int32) (x5 : Int32) (x6 : Int32) (x7 : Int32) (x8 : Int32) (x9 : Int64) (x11 : Int32) (hk73 : ∀ (p : Int32 × Int32 × Int64 × Int32 × HS) (r : HS), k73 p = some r → AR l RX5 cX5_settle 18 none (wsU yX5_settle cX5_settle 18 none) rm5_settle SC 73 [(0, .ref (g + 2)), (1, .int x1), (2, .int x2), (3, .int x3), (4, .int x4), (5, .int x5), (6, .int x6), (7, .int (p.1)), (8, .int (p.2.1)), (9, .long (p.2.2.1)), (11, .int (p.2.2.2.1))] [] p.2.2.2.2 (none, r)) (σ : HS) (r : HS) (h : f5_settle_73_b g k73 x1 x2 x3 x4 x5 x6 x7 x8 x9 x11 σ = some r) : AR l RX5 cX5_settle 18 none (wsU yX5_settle cX5_settle 18 none) rm5_settle SC 73 [(0, .ref (g + 2)), (1, .int x1), (2, .int x2), (3, .int x3), (4, .int x4), (5, .int x5), (6, .int x6), (7, .int x7), (8, .int x8), (9, .long x9), (11, .int x11)] [] σ (none, r) := by
  unfold f5_settle_73_b at h
  refine AR.iload (pc := 73) (j := 10) dX5_settle_73 rfl ?_
  refine AR.iload (pc := 75) (j := 6) dX5_settle_75 rfl ?_
  refine AR.icmp_ge (pc := 77) (tgt := 239) dX5_settle_77 (by decide) (fun c1 => ?_) (fun c1 => ?_)
  · replace h := ite_t c1 h
    exact AR.pick [0, 1, 2, 7, 9] rfl (A5_settle_239 g hg x1 x2 x7 x9 σ r h)
  · replace h := ite_f c1 h
    refine AR.iload (pc := 80) (j := 10) dX5_settle_80 rfl ?_
    refine AR.iconst (pc := 82) (v := 3) dX5_settle_82 (by decide) ?_
    refine AR.icmp_ge (pc := 83) (tgt := 239) dX5_settle_83 (by decide) (fun c2 => ?_) (fun c2 => ?_)
    · replace h := ite_t c2 h
      exact AR.pick [0, 1, 2, 7, 9] rfl (A5_settle_239 g hg x1 x2 x7 x9 σ r h)
    · replace h := ite_f c2 h
      refine AR.aload_n (pc := 86) (j := 0) dX5_settle_86 rfl rfl ?_
      refine AR.getf (pc := 87) (ci := 5) (j := 1) (d := 5 + 2) (v := .ref 5) (T := TX5) dX5_settle_87 (gr2 hg) rfl rfl (by decide) (fun w hw => wsU_in (uw_X5 w hw)) (wsU_in fl_X5_45) rfl ?_
      refine AR.iload (pc := 90) (j := 4) dX5_settle_90 rfl ?_
      refine AR.iload (pc := 92) (j := 10) dX5_settle_92 rfl ?_
      obtain ⟨r3, h3, h⟩ := bd_some h
      refine AR.callVN (pc := 94) (As := [.int x4, .int x11]) (st := []) (ci := 4) dX5_settle_94 ⟨cd_X4_lengthOf, im_X4_lengthOf, se_X4_lengthOf, ini_X4⟩ mn_X5_88 (A4_lengthOf 5 ppl5 x4 x11 σ _ h3) ⟨rfl, pd_X4_lengthOf⟩ ⟨Nat.le_of_ble_eq_true rfl, Nat.le_of_ble_eq_true rfl⟩ ⟨rfl, rfl⟩ rfl rfl rfl (Nat.le_of_ble_eq_true rfl) ?_
      refine AR.istore (pc := 97) (L2 := [(12, .int (r3.1)), (0, .ref (g + 2)), (1, .int x1), (2, .int x2), (3, .int x3), (4, .int x4), (5, .int x5), (6, .int x6), (7, .int x7), (8, .int x8), (9, .long x9), (11, .int x11)]) dX5_settle_97 (by decide) rfl ?_
      refine AR.iload (pc := 99) (j := 0) dX5_settle_99 rfl ?_
      refine AR.iload_n (pc := 101) (j := 3) dX5_settle_101 rfl rfl ?_
      refine AR.icmp_gt (pc := 102) (tgt := 233) dX5_settle_102 (by decide) (fun c4 => ?_) (fun c4 => ?_)
      · replace h := ite_t c4 h
        exact AR.pick [1, 2, 3, 4, 5, 6, 7, 8, 9, 10, 11] rfl (A5_settle_233 g hg k73 x1 x2 x3 x4 x5 x6 x7 x8 x9 x11 hk73 (r3.2) r h)
      · replace h := ite_f c4 h
        refine AR.aload_n (pc := 105) (j := 1) dX5_settle_105 rfl rfl ?_
        refine AR.getf (pc := 106) (ci := 5) (j := 0) (d := g + 2) (v := .ref g) (T := TX5) dX5_settle_106 (gr2 hg) rfl rfl (by decide) (fun w hw => wsU_in (uw_X5 w hw)) (wsU_in fl_X5_35) rfl ?_
        refine AR.iload_n (pc := 109) (j := 3) dX5_settle_109 rfl rfl ?_
        refine AR.iload (pc := 110) (j := 0) dX5_settle_110 rfl ?_
        refine AR.isub (pc := 112) dX5_settle_112 ?_
        obtain ⟨r5, h5, h⟩ := bd_some h
        refine AR.callVN (pc := 113) (As := [.int (x2 - (r3.1))]) (st := []) (ci := 0) dX5_settle_113 ⟨cd_X0_waterBehind, im_X0_waterBehind, se_X0_waterBehind, ini_X0⟩ mn_X5_82 (A0_waterBehind g hg (x2 - (r3.1)) (r3.2) _ h5) ⟨rfl, pd_X0_waterBehind⟩ ⟨Nat.le_of_ble_eq_true rfl, Nat.le_of_ble_eq_true rfl⟩ ⟨rfl, rfl⟩ (gr0 hg) rfl rfl (Nat.le_of_ble_eq_true rfl) ?_
        refine AR.istore (pc := 116) (L2 := [(13, .int (r5.1)), (12, .int (r3.1)), (0, .ref (g + 2)), (1, .int x1), (2, .int x2), (3, .int x3), (4, .int x4), (5, .int x5), (6, .int x6), (7, .int x7), (8, .int x8), (9, .long x9), (11, .int x11)]) dX5_settle_116 (by decide) rfl ?_
        refine AR.aload_n (pc := 118) (j := 2) dX5_settle_118 rfl rfl ?_
        refine AR.iload_n (pc := 119) (j := 3) dX5_settle_119 rfl rfl ?_
        refine AR.iconst (pc := 120) (v := 1) dX5_settle_120 (by decide) ?_
        refine AR.iadd (pc := 121) dX5_settle_121 ?_
        refine AR.iload (pc := 122) (j := 0) dX5_settle_122 rfl ?_
        obtain ⟨r6, h6, h⟩ := bd_some h
        refine AR.callV (pc := 124) (As := [.int (x1 + 1), .int (r5.1)]) (st := []) (ci := 5) dX5_settle_124 ⟨cd_X5_worthsFrom, im_X5_worthsFrom, se_X5_worthsFrom, ini_X5⟩ ml_X5_106 (A5_worthsFrom g hg (x1 + 1) (r5.1) (r5.2) _ h6) ⟨rfl, pd_X5_worthsFrom⟩ ⟨Nat.le_of_ble_eq_true rfl, Nat.le_of_ble_eq_true rfl⟩ ⟨rfl, rfl⟩ (gr2 hg) rfl rfl (Nat.le_of_ble_eq_true rfl) ?_
        refine AR.aload_n (pc := 127) (j := 2) dX5_settle_127 rfl rfl ?_
        refine AR.getf (pc := 128) (ci := 5) (j := 1) (d := 5 + 2) (v := .ref 5) (T := TX5) dX5_settle_128 (gr2 hg) rfl rfl (by decide) (fun w hw => wsU_in (uw_X5 w hw)) (wsU_in fl_X5_45) rfl ?_
        refine AR.iload (pc := 131) (j := 6) dX5_settle_131 rfl ?_
        refine AR.iload (pc := 133) (j := 12) dX5_settle_133 rfl ?_
        obtain ⟨r7, h7, h⟩ := bd_some h
        refine AR.callVN (pc := 135) (As := [.int x4, .int x11]) (st := [.long (r6.1)]) (ci := 4) dX5_settle_135 ⟨cd_X4_gainBy, im_X4_gainBy, se_X4_gainBy, ini_X4⟩ mn_X5_110 (A4_gainBy x4 x11 (r6.2) _ h7) ⟨rfl, pd_X4_gainBy⟩ ⟨Nat.le_of_ble_eq_true rfl, Nat.le_of_ble_eq_true rfl⟩ ⟨rfl, rfl⟩ rfl rfl rfl (Nat.le_of_ble_eq_true rfl) ?_
        refine AR.ladd (pc := 138) dX5_settle_138 ?_
        refine AR.lstore (pc := 139) (L2 := [(14, .long ((r6.1) + (r7.1))), (13, .int (r5.1)), (12, .int (r3.1)), (0, .ref (g + 2)), (1, .int x1), (2, .int x2), (3, .int x3), (4, .int x4), (5, .int x5), (6, .int x6), (7, .int x7), (8, .int x8), (9, .long x9), (11, .int x11)]) dX5_settle_139 (by decide) rfl ?_
        refine AR.iload_n (pc := 141) (j := 6) dX5_settle_141 rfl rfl ?_
        refine AR.if_eq (pc := 142) (tgt := 159) dX5_settle_142 (by decide) (fun c8 => ?_) (fun c8 => ?_)
        · replace h := ite_t c8 h
          refine AR.lload (pc := 159) (j := 0) dX5_settle_159 rfl ?_
          refine AR.iload (pc := 161) (j := 7) dX5_settle_161 rfl ?_
          obtain ⟨r9, h9, h⟩ := bd_some h
          refine AR.callSN (pc := 163) (As := [.long ((r6.1) + (r7.1)), .int x4]) (st := []) dX5_settle_163 ⟨cd_X8_worthIn, sm_X8_worthIn, ini_X8⟩ mn_X5_117 (A8_worthIn ((r6.1) + (r7.1)) x4 (r7.2) _ h9) pd_X8_worthIn ⟨Nat.le_of_ble_eq_true rfl, Nat.le_of_ble_eq_true rfl⟩ ⟨rfl, rfl⟩ rfl (Nat.le_of_ble_eq_true rfl) ?_
          refine AR.lload (pc := 166) (j := 12) dX5_settle_166 rfl ?_
          refine AR.iload (pc := 168) (j := 7) dX5_settle_168 rfl ?_
          obtain ⟨r10, h10, h⟩ := bd_some h
          refine AR.callSN (pc := 170) (As := [.long x9, .int x4]) (st := [.int (r9.1)]) dX5_settle_170 ⟨cd_X8_worthIn, sm_X8_worthIn, ini_X8⟩ mn_X5_117 (A8_worthIn x9 x4 (r9.2) _ h10) pd_X8_worthIn ⟨Nat.le_of_ble_eq_true rfl, Nat.le_of_ble_eq_true rfl⟩ ⟨rfl, rfl⟩ rfl (Nat.le_of_ble_eq_true rfl) ?_
          refine AR.isub (pc := 173) dX5_settle_173 ?_
          exact AR.pick [3, 4, 5, 6, 7, 8, 9, 10, 11, 12, 13, 2, 0] rfl (A5_settle_174 g hg k73 x1 x2 x3 x4 x5 x6 x7 x8 x9 x11 (r3.1) ((r6.1) + (r7.1)) ((r9.1) - (r10.1)) hk73 (r10.2) r h)
        · replace h := ite_f c8 h
          refine AR.lload (pc := 145) (j := 0) dX5_settle_145 rfl ?_
          obtain ⟨r11, h11, h⟩ := bd_some h
          refine AR.callSN (pc := 147) (As := [.long ((r6.1) + (r7.1))]) (st := []) dX5_settle_147 ⟨cd_X8_worthToAll, sm_X8_worthToAll, ini_X8⟩ mn_X5_113 (A8_worthToAll ((r6.1) + (r7.1)) (r7.2) _ h11) pd_X8_worthToAll ⟨Nat.le_of_ble_eq_true rfl, Nat.le_of_ble_eq_true rfl⟩ ⟨rfl, rfl⟩ rfl (Nat.le_of_ble_eq_true rfl) ?_
          refine AR.lload (pc := 150) (j := 12) dX5_settle_150 rfl ?_
          obtain ⟨r12, h12, h⟩ := bd_some h
          refine AR.callSN (pc := 152) (As := [.long x9]) (st := [.int (r11.1)]) dX5_settle_152 ⟨cd_X8_worthToAll, sm_X8_worthToAll, ini_X8⟩ mn_X5_113 (A8_worthToAll x9 (r11.2) _ h12) pd_X8_worthToAll ⟨Nat.le_of_ble_eq_true rfl, Nat.le_of_ble_eq_true rfl⟩ ⟨rfl, rfl⟩ rfl (Nat.le_of_ble_eq_true rfl) ?_
          refine AR.isub (pc := 155) dX5_settle_155 ?_
          refine AR.goto (pc := 156) (tgt := 174) dX5_settle_156 (by decide) ?_
          exact AR.pick [3, 4, 5, 6, 7, 8, 9, 10, 11, 12, 13, 2, 0] rfl (A5_settle_174 g hg k73 x1 x2 x3 x4 x5 x6 x7 x8 x9 x11 (r3.1) ((r6.1) + (r7.1)) ((r11.1) - (r12.1)) hk73 (r12.2) r h)
theorem A5_settle_73 {l : Launch} (g : Nat) (hg : Grp g) (x1 : Int32) (x2 : Int32) (x3 : Int32) (x4 : Int32) (x5 : Int32) (x6 : Int32) (p : Int32 × Int32 × Int64 × Int32 × HS) (r : HS) (h : f5_settle_73 g x1 x2 x3 x4 x5 x6 p = some r) : AR l RX5 cX5_settle 18 none (wsU yX5_settle cX5_settle 18 none) rm5_settle SC 73 [(0, .ref (g + 2)), (1, .int x1), (2, .int x2), (3, .int x3), (4, .int x4), (5, .int x5), (6, .int x6), (7, .int (p.1)), (8, .int (p.2.1)), (9, .long (p.2.2.1)), (11, .int (p.2.2.2.1))] [] p.2.2.2.2 (none, r) := by
  unfold f5_settle_73 at h
  exact wloop_run (body := fun k73 p => f5_settle_73_b g k73 x1 x2 x3 x4 x5 x6 p.1 p.2.1 p.2.2.1 p.2.2.2.1 p.2.2.2.2) (Q := fun p r => AR l RX5 cX5_settle 18 none (wsU yX5_settle cX5_settle 18 none) rm5_settle SC 73 [(0, .ref (g + 2)), (1, .int x1), (2, .int x2), (3, .int x3), (4, .int x4), (5, .int x5), (6, .int x6), (7, .int (p.1)), (8, .int (p.2.1)), (9, .long (p.2.2.1)), (11, .int (p.2.2.2.1))] [] p.2.2.2.2 (none, r)) (fun k73 hk73 p r h => A5_settle_73_b g hg k73 x1 x2 x3 x4 x5 x6 p.1 p.2.1 p.2.2.1 p.2.2.2.1 hk73 p.2.2.2.2 r h) fuelN p r h
set_option maxHeartbeats 4000000 in
set_option maxRecDepth 100000 in
theorem A5_settle_44 {l : Launch} (g : Nat) (hg : Grp g) (x1 : Int32) (x2 : Int32) (x3 : Int32) (x4 : Int32) (x5 : Int32) (z0 : Int32) (σ : HS) (r : HS) (h : f5_settle_44 g x1 x2 x3 x4 x5 z0 σ = some r) : AR l RX5 cX5_settle 18 none (wsU yX5_settle cX5_settle 18 none) rm5_settle SC 44 [(0, .ref (g + 2)), (1, .int x1), (2, .int x2), (3, .int x3), (4, .int x4), (5, .int x5)] [.int z0] σ (none, r) := by
  unfold f5_settle_44 at h
  refine AR.istore (pc := 44) (L2 := [(6, .int z0), (0, .ref (g + 2)), (1, .int x1), (2, .int x2), (3, .int x3), (4, .int x4), (5, .int x5)]) dX5_settle_44 (by decide) rfl ?_
  refine AR.bipush (pc := 46) (v := (-9)) dX5_settle_46 (by decide) ?_
  refine AR.istore (pc := 48) (L2 := [(7, .int (-9)), (6, .int z0), (0, .ref (g + 2)), (1, .int x1), (2, .int x2), (3, .int x3), (4, .int x4), (5, .int x5)]) dX5_settle_48 (by decide) rfl ?_
  refine AR.iconst (pc := 50) (v := 0) dX5_settle_50 (by decide) ?_
  refine AR.istore (pc := 51) (L2 := [(8, .int 0), (7, .int (-9)), (6, .int z0), (0, .ref (g + 2)), (1, .int x1), (2, .int x2), (3, .int x3), (4, .int x4), (5, .int x5)]) dX5_settle_51 (by decide) rfl ?_
  refine AR.aload_n (pc := 53) (j := 3) dX5_settle_53 rfl rfl ?_
  refine AR.iload_n (pc := 54) (j := 4) dX5_settle_54 rfl rfl ?_
  refine AR.iconst (pc := 55) (v := 1) dX5_settle_55 (by decide) ?_
  refine AR.iadd (pc := 56) dX5_settle_56 ?_
  refine AR.aload_n (pc := 57) (j := 3) dX5_settle_57 rfl rfl ?_
  refine AR.getf (pc := 58) (ci := 5) (j := 0) (d := g + 2) (v := .ref g) (T := TX5) dX5_settle_58 (gr2 hg) rfl rfl (by decide) (fun w hw => wsU_in (uw_X5 w hw)) (wsU_in fl_X5_35) rfl ?_
  refine AR.iload_n (pc := 61) (j := 5) dX5_settle_61 rfl rfl ?_
  obtain ⟨r1, h1, h⟩ := bd_some h
  refine AR.callVN (pc := 62) (As := [.int x2]) (st := [.int (x1 + 1), .ref (g + 2)]) (ci := 0) dX5_settle_62 ⟨cd_X0_waterBehind, im_X0_waterBehind, se_X0_waterBehind, ini_X0⟩ mn_X5_82 (A0_waterBehind g hg x2 σ _ h1) ⟨rfl, pd_X0_waterBehind⟩ ⟨Nat.le_of_ble_eq_true rfl, Nat.le_of_ble_eq_true rfl⟩ ⟨rfl, rfl⟩ (gr0 hg) rfl rfl (Nat.le_of_ble_eq_true rfl) ?_
  obtain ⟨r2, h2, h⟩ := bd_some h
  refine AR.callV (pc := 65) (As := [.int (x1 + 1), .int (r1.1)]) (st := []) (ci := 5) dX5_settle_65 ⟨cd_X5_worthsFrom, im_X5_worthsFrom, se_X5_worthsFrom, ini_X5⟩ ml_X5_106 (A5_worthsFrom g hg (x1 + 1) (r1.1) (r1.2) _ h2) ⟨rfl, pd_X5_worthsFrom⟩ ⟨Nat.le_of_ble_eq_true rfl, Nat.le_of_ble_eq_true rfl⟩ ⟨rfl, rfl⟩ (gr2 hg) rfl rfl (Nat.le_of_ble_eq_true rfl) ?_
  refine AR.lstore (pc := 68) (L2 := [(9, .long (r2.1)), (8, .int 0), (7, .int (-9)), (6, .int z0), (0, .ref (g + 2)), (1, .int x1), (2, .int x2), (3, .int x3), (4, .int x4), (5, .int x5)]) dX5_settle_68 (by decide) rfl ?_
  refine AR.iconst (pc := 70) (v := 0) dX5_settle_70 (by decide) ?_
  refine AR.istore (pc := 71) (L2 := [(11, .int 0), (9, .long (r2.1)), (8, .int 0), (7, .int (-9)), (6, .int z0), (0, .ref (g + 2)), (1, .int x1), (2, .int x2), (3, .int x3), (4, .int x4), (5, .int x5)]) dX5_settle_71 (by decide) rfl ?_
  exact AR.pick [5, 6, 7, 8, 9, 10, 4, 3, 2, 1, 0] rfl (A5_settle_73 g hg x1 x2 x3 x4 x5 z0 ((-9), 0, r2.1, 0, r2.2) r h)
set_option maxHeartbeats 4000000 in
set_option maxRecDepth 100000 in
theorem A5_settle_31 {l : Launch} (g : Nat) (hg : Grp g) (x1 : Int32) (x2 : Int32) (x3 : Int32) (x4 : Int32) (x5 : Int32) (σ : HS) (r : HS) (h : f5_settle_31 g x1 x2 x3 x4 x5 σ = some r) : AR l RX5 cX5_settle 18 none (wsU yX5_settle cX5_settle 18 none) rm5_settle SC 31 [(0, .ref (g + 2)), (1, .int x1), (2, .int x2), (3, .int x3), (4, .int x4), (5, .int x5)] [] σ (none, r) := by
  unfold f5_settle_31 at h
  refine AR.aload_n (pc := 31) (j := 0) dX5_settle_31 rfl rfl ?_
  refine AR.getf (pc := 32) (ci := 5) (j := 1) (d := 5 + 2) (v := .ref 5) (T := TX5) dX5_settle_32 (gr2 hg) rfl rfl (by decide) (fun w hw => wsU_in (uw_X5 w hw)) (wsU_in fl_X5_45) rfl ?_
  refine AR.iload (pc := 35) (j := 4) dX5_settle_35 rfl ?_
  obtain ⟨r1, h1, h⟩ := bd_some h
  refine AR.callVN (pc := 37) (As := [.int x4]) (st := []) (ci := 4) dX5_settle_37 ⟨cd_X4_wordsOf, im_X4_wordsOf, se_X4_wordsOf, ini_X4⟩ mn_X5_85 (A4_wordsOf 5 ppl5 x4 σ _ h1) ⟨rfl, pd_X4_wordsOf⟩ ⟨Nat.le_of_ble_eq_true rfl, Nat.le_of_ble_eq_true rfl⟩ ⟨rfl, rfl⟩ rfl rfl rfl (Nat.le_of_ble_eq_true rfl) ?_
  refine AR.goto (pc := 40) (tgt := 44) dX5_settle_40 (by decide) ?_
  exact AR.pick [0, 1, 2, 3, 4, 5] rfl (A5_settle_44 g hg x1 x2 x3 x4 x5 (r1.1) (r1.2) r h)
set_option maxHeartbeats 4000000 in
set_option maxRecDepth 100000 in
theorem A5_settle {l : Launch} (g : Nat) (hg : Grp g) (x1 : Int32) (x2 : Int32) (x3 : Int32) (σ : HS) (r : HS) (h : f5_settle g x1 x2 x3 σ = some r) : MA l yX5_settle (wsU yX5_settle cX5_settle 18 none) rm5_settle SC [.ref (g + 2), .int x1, .int x2, .int x3] σ (none, r) := by
  refine MA.of (L := [(0, .ref (g + 2)), (1, .int x1), (2, .int x2), (3, .int x3)]) pn_X5_settle rfl (fun _ => Nat.le_of_ble_eq_true rfl) (fun _ => rfl) ?_
  unfold f5_settle at h
  refine AR.aload_n (pc := 0) (j := 0) dX5_settle_0 rfl rfl ?_
  refine AR.getf (pc := 1) (ci := 5) (j := 0) (d := g + 2) (v := .ref g) (T := TX5) dX5_settle_1 (gr2 hg) rfl rfl (by decide) (fun w hw => wsU_in (uw_X5 w hw)) (wsU_in fl_X5_35) rfl ?_
  refine AR.iload_n (pc := 4) (j := 1) dX5_settle_4 rfl rfl ?_
  obtain ⟨r1, h1, h⟩ := bd_some h
  refine AR.callVN (pc := 5) (As := [.int x1]) (st := []) (ci := 0) dX5_settle_5 ⟨cd_X0_whoIn, im_X0_whoIn, se_X0_whoIn, ini_X0⟩ mn_X5_78 (A0_whoIn g hg x1 σ _ h1) ⟨rfl, pd_X0_whoIn⟩ ⟨Nat.le_of_ble_eq_true rfl, Nat.le_of_ble_eq_true rfl⟩ ⟨rfl, rfl⟩ (gr0 hg) rfl rfl (Nat.le_of_ble_eq_true rfl) ?_
  refine AR.istore (pc := 8) (L2 := [(4, .int (r1.1)), (0, .ref (g + 2)), (1, .int x1), (2, .int x2), (3, .int x3)]) dX5_settle_8 (by decide) rfl ?_
  refine AR.aload_n (pc := 10) (j := 1) dX5_settle_10 rfl rfl ?_
  refine AR.getf (pc := 11) (ci := 5) (j := 1) (d := 5 + 2) (v := .ref 5) (T := TX5) dX5_settle_11 (gr2 hg) rfl rfl (by decide) (fun w hw => wsU_in (uw_X5 w hw)) (wsU_in fl_X5_45) rfl ?_
  refine AR.iload (pc := 14) (j := 0) dX5_settle_14 rfl ?_
  obtain ⟨r2, h2, h⟩ := bd_some h
  refine AR.callVN (pc := 16) (As := [.int (r1.1)]) (st := []) (ci := 4) dX5_settle_16 ⟨cd_X4_kindOf, im_X4_kindOf, se_X4_kindOf, ini_X4⟩ mn_X5_103 (A4_kindOf 5 ppl5 (r1.1) (r1.2) _ h2) ⟨rfl, pd_X4_kindOf⟩ ⟨Nat.le_of_ble_eq_true rfl, Nat.le_of_ble_eq_true rfl⟩ ⟨rfl, rfl⟩ rfl rfl rfl (Nat.le_of_ble_eq_true rfl) ?_
  refine AR.istore (pc := 19) (L2 := [(5, .int (r2.1)), (4, .int (r1.1)), (0, .ref (g + 2)), (1, .int x1), (2, .int x2), (3, .int x3)]) dX5_settle_19 (by decide) rfl ?_
  refine AR.iload_n (pc := 21) (j := 5) dX5_settle_21 rfl rfl ?_
  refine AR.if_ne (pc := 22) (tgt := 31) dX5_settle_22 (by decide) (fun c3 => ?_) (fun c3 => ?_)
  · replace h := ite_f c3 h
    exact AR.pick [2, 3, 4, 5, 1, 0] rfl (A5_settle_31 g hg x1 x2 x3 (r1.1) (r2.1) (r2.2) r h)
  · replace h := ite_t c3 h
    refine AR.iload (pc := 25) (j := 0) dX5_settle_25 rfl ?_
    refine AR.iconst (pc := 27) (v := 2) dX5_settle_27 (by decide) ?_
    refine AR.icmp_eq (pc := 28) (tgt := 43) dX5_settle_28 (by decide) (fun c4 => ?_) (fun c4 => ?_)
    · replace h := ite_t c4 h
      refine AR.iconst (pc := 43) (v := 0) dX5_settle_43 (by decide) ?_
      exact AR.pick [2, 3, 4, 5, 1, 0] rfl (A5_settle_44 g hg x1 x2 x3 (r1.1) (r2.1) 0 (r2.2) r h)
    · replace h := ite_f c4 h
      exact AR.pick [2, 3, 4, 5, 1, 0] rfl (A5_settle_31 g hg x1 x2 x3 (r1.1) (r2.1) (r2.2) r h)
set_option maxHeartbeats 4000000 in
set_option maxRecDepth 100000 in
theorem A5_settleAll_7_b {l : Launch} (g : Nat) (hg : Grp g) (k7 : Int32 × HS → Option (HS)) (x1 : Int32) (x2 : Int32) (hk7 : ∀ (p : Int32 × HS) (r : HS), k7 p = some r → AR l RX5 cX5_settleAll 4 none (wsU yX5_settleAll cX5_settleAll 4 none) rm5_settleAll SC 7 [(0, .ref (g + 2)), (1, .int x1), (2, .int (p.1))] [] p.2 (none, r)) (σ : HS) (r : HS) (h : f5_settleAll_7_b g k7 x1 x2 σ = some r) : AR l RX5 cX5_settleAll 4 none (wsU yX5_settleAll cX5_settleAll 4 none) rm5_settleAll SC 7 [(0, .ref (g + 2)), (1, .int x1), (2, .int x2)] [] σ (none, r) := by
  unfold f5_settleAll_7_b at h
  refine AR.iload_n (pc := 7) (j := 2) dX5_settleAll_7 rfl rfl ?_
  refine AR.if_lt (pc := 8) (tgt := 39) dX5_settleAll_8 (by decide) (fun c1 => ?_) (fun c1 => ?_)
  · replace h := ite_t c1 h
    exact AR.vret (pc := 39) rfl dX5_settleAll_39 (hrV (Option.some.inj h))
  · replace h := ite_f c1 h
    refine AR.aload_n (pc := 11) (j := 0) dX5_settleAll_11 rfl rfl ?_
    refine AR.getf (pc := 12) (ci := 5) (j := 4) (d := (g + 5) + 2) (v := .ref (g + 5)) (T := TX5) dX5_settleAll_12 (gr2 hg) rfl rfl (by decide) (fun w hw => wsU_in (uw_X5 w hw)) (wsU_in fl_X5_19) rfl ?_
    refine AR.iload_n (pc := 15) (j := 2) dX5_settleAll_15 rfl rfl ?_
    obtain ⟨r2, h2, h⟩ := bd_some h
    refine AR.callSN (pc := 16) (As := [.ref (g + 5), .int x2]) (st := []) dX5_settleAll_16 ⟨cd_X8_at, sm_X8_at, ini_X8⟩ mn_X5_71 (A8_at (g + 5) 600 (gr5 hg) x2 σ _ h2) pd_X8_at ⟨Nat.le_of_ble_eq_true rfl, Nat.le_of_ble_eq_true rfl⟩ ⟨rfl, rfl⟩ rfl (Nat.le_of_ble_eq_true rfl) ?_
    refine AR.istore_n (pc := 19) (L2 := [(3, .int (r2.1)), (0, .ref (g + 2)), (1, .int x1), (2, .int x2)]) dX5_settleAll_19 rfl (by decide) rfl ?_
    refine AR.aload_n (pc := 20) (j := 1) dX5_settleAll_20 rfl rfl ?_
    refine AR.iload_n (pc := 21) (j := 0) dX5_settleAll_21 rfl rfl ?_
    refine AR.bipush (pc := 22) (v := 100) dX5_settleAll_22 (by decide) ?_
    refine AR.idiv (pc := 24) dX5_settleAll_24 (by decide) ?_
    refine AR.iload_n (pc := 25) (j := 0) dX5_settleAll_25 rfl rfl ?_
    refine AR.bipush (pc := 26) (v := 100) dX5_settleAll_26 (by decide) ?_
    refine AR.irem (pc := 28) dX5_settleAll_28 (by decide) ?_
    refine AR.iload_n (pc := 29) (j := 2) dX5_settleAll_29 rfl rfl ?_
    obtain ⟨r3, h3, h⟩ := bd_some h
    refine AR.callV (pc := 30) (As := [.int ((r2.1) / 100), .int ((r2.1) - (r2.1) / 100 * 100), .int x1]) (st := []) (ci := 5) dX5_settleAll_30 ⟨cd_X5_settle, im_X5_settle, se_X5_settle, ini_X5⟩ ml_X5_99 (A5_settle g hg ((r2.1) / 100) ((r2.1) - (r2.1) / 100 * 100) x1 (r2.2) _ h3) ⟨rfl, pd_X5_settle⟩ ⟨Nat.le_of_ble_eq_true rfl, Nat.le_of_ble_eq_true rfl⟩ ⟨rfl, rfl⟩ (gr2 hg) rfl rfl (Nat.le_of_ble_eq_true rfl) ?_
    refine AR.iinc (pc := 33) (j := 3) (v := (x2 + (-1))) (L2 := [(2, .int (x2 + (-1))), (3, .int (r2.1)), (0, .ref (g + 2)), (1, .int x1)]) dX5_settleAll_33 rfl rfl (by decide) rfl ?_
    refine AR.goto (pc := 36) (tgt := 7) dX5_settleAll_36 (by decide) ?_
    exact AR.pick [2, 3, 0] rfl (hk7 ((x2 + (-1)), r3) r h)
theorem A5_settleAll_7 {l : Launch} (g : Nat) (hg : Grp g) (x1 : Int32) (p : Int32 × HS) (r : HS) (h : f5_settleAll_7 g x1 p = some r) : AR l RX5 cX5_settleAll 4 none (wsU yX5_settleAll cX5_settleAll 4 none) rm5_settleAll SC 7 [(0, .ref (g + 2)), (1, .int x1), (2, .int (p.1))] [] p.2 (none, r) := by
  unfold f5_settleAll_7 at h
  exact wloop_run (body := fun k7 p => f5_settleAll_7_b g k7 x1 p.1 p.2) (Q := fun p r => AR l RX5 cX5_settleAll 4 none (wsU yX5_settleAll cX5_settleAll 4 none) rm5_settleAll SC 7 [(0, .ref (g + 2)), (1, .int x1), (2, .int (p.1))] [] p.2 (none, r)) (fun k7 hk7 p r h => A5_settleAll_7_b g hg k7 x1 p.1 hk7 p.2 r h) fuelN p r h
set_option maxHeartbeats 4000000 in
set_option maxRecDepth 100000 in
theorem A5_settleAll {l : Launch} (g : Nat) (hg : Grp g) (x1 : Int32) (σ : HS) (r : HS) (h : f5_settleAll g x1 σ = some r) : MA l yX5_settleAll (wsU yX5_settleAll cX5_settleAll 4 none) rm5_settleAll SC [.ref (g + 2), .int x1] σ (none, r) := by
  refine MA.of (L := [(0, .ref (g + 2)), (1, .int x1)]) pn_X5_settleAll rfl (fun _ => Nat.le_of_ble_eq_true rfl) (fun _ => rfl) ?_
  unfold f5_settleAll at h
  refine AR.aload_n (pc := 0) (j := 0) dX5_settleAll_0 rfl rfl ?_
  refine AR.getf (pc := 1) (ci := 5) (j := 5) (d := 0) (v := .int (σ.1 (g + 2) 5)) (T := TX5) dX5_settleAll_1 (gr2 hg) rfl rfl (by decide) (fun w hw => wsU_in (uw_X5 w hw)) (wsU_in fl_X5_22) rfl ?_
  refine AR.iconst (pc := 4) (v := 1) dX5_settleAll_4 (by decide) ?_
  refine AR.isub (pc := 5) dX5_settleAll_5 ?_
  refine AR.istore_n (pc := 6) (L2 := [(2, .int ((σ.1 (g + 2) 5) - 1)), (0, .ref (g + 2)), (1, .int x1)]) dX5_settleAll_6 rfl (by decide) rfl ?_
  exact AR.pick [1, 2, 0] rfl (A5_settleAll_7 g hg x1 (((σ.1 (g + 2) 5) - 1), σ) r h)
set_option maxHeartbeats 4000000 in
set_option maxRecDepth 100000 in
theorem A5_makeForFreeDay {l : Launch} (σ : HS) (r : HS) (h : f5_makeForFreeDay σ = some r) : MA l yX5_makeForFreeDay (wsU yX5_makeForFreeDay cX5_makeForFreeDay 1 none) rm5_makeForFreeDay SC [.ref 32] σ (none, r) := by
  refine MA.of (L := [(0, .ref 32)]) pn_X5_makeForFreeDay rfl (fun _ => Nat.le_of_ble_eq_true rfl) (fun _ => rfl) ?_
  unfold f5_makeForFreeDay at h
  refine AR.aload_n (pc := 0) (j := 0) dX5_makeForFreeDay_0 rfl rfl ?_
  obtain ⟨r1, h1, h⟩ := bd_some h
  refine AR.callV (pc := 1) (As := []) (st := []) (ci := 5) dX5_makeForFreeDay_1 ⟨cd_X5_openWhatIsReached, im_X5_openWhatIsReached, se_X5_openWhatIsReached, ini_X5⟩ ml_X5_62 (A5_openWhatIsReached σ _ h1) ⟨rfl, pd_X5_openWhatIsReached⟩ ⟨Nat.le_of_ble_eq_true rfl, Nat.le_of_ble_eq_true rfl⟩ ⟨rfl, rfl⟩ rfl rfl rfl (Nat.le_of_ble_eq_true rfl) ?_
  refine AR.aload_n (pc := 4) (j := 0) dX5_makeForFreeDay_4 rfl rfl ?_
  refine AR.iconst (pc := 5) (v := 0) dX5_makeForFreeDay_5 (by decide) ?_
  obtain ⟨r2, h2, h⟩ := bd_some h
  refine AR.callV (pc := 6) (As := [.int 0]) (st := []) (ci := 5) dX5_makeForFreeDay_6 ⟨cd_X5_settleAll, im_X5_settleAll, se_X5_settleAll, ini_X5⟩ ml_X5_58 (A5_settleAll 30 grp30 0 r1 _ h2) ⟨rfl, pd_X5_settleAll⟩ ⟨Nat.le_of_ble_eq_true rfl, Nat.le_of_ble_eq_true rfl⟩ ⟨rfl, rfl⟩ rfl rfl rfl (Nat.le_of_ble_eq_true rfl) ?_
  exact AR.vret (pc := 9) rfl dX5_makeForFreeDay_9 (hrV (Option.some.inj h))
set_option maxHeartbeats 4000000 in
set_option maxRecDepth 100000 in
theorem A3_packedOrder_4_b {l : Launch} (k4 : Int32 × Int32 × HS → Option (Int32 × HS)) (x1 : Int32) (x2 : Int32) (hk4 : ∀ (p : Int32 × Int32 × HS) (r : Int32 × HS), k4 p = some r → AR l RX3 cX3_packedOrder 3 (some .int) (wsU yX3_packedOrder cX3_packedOrder 3 (some .int)) rm3_packedOrder SC 4 [(0, .ref 44), (1, .int (p.1)), (2, .int (p.2.1))] [] p.2.2 (some (.int r.1), r.2)) (σ : HS) (r : Int32 × HS) (h : f3_packedOrder_4_b k4 x1 x2 σ = some r) : AR l RX3 cX3_packedOrder 3 (some .int) (wsU yX3_packedOrder cX3_packedOrder 3 (some .int)) rm3_packedOrder SC 4 [(0, .ref 44), (1, .int x1), (2, .int x2)] [] σ (some (.int r.1), r.2) := by
  unfold f3_packedOrder_4_b at h
  refine AR.iload_n (pc := 4) (j := 2) dX3_packedOrder_4 rfl rfl ?_
  refine AR.iconst (pc := 5) (v := 5) dX3_packedOrder_5 (by decide) ?_
  refine AR.icmp_ge (pc := 6) (tgt := 30) dX3_packedOrder_6 (by decide) (fun c1 => ?_) (fun c1 => ?_)
  · replace h := ite_t c1 h
    refine AR.iload_n (pc := 30) (j := 1) dX3_packedOrder_30 rfl rfl ?_
    exact AR.iret (pc := 31) rfl dX3_packedOrder_31 (hrI (Option.some.inj h))
  · replace h := ite_f c1 h
    refine AR.iload_n (pc := 9) (j := 1) dX3_packedOrder_9 rfl rfl ?_
    refine AR.aload_n (pc := 10) (j := 0) dX3_packedOrder_10 rfl rfl ?_
    refine AR.getf (pc := 11) (ci := 3) (j := 1) (d := 30 + 2) (v := .ref 30) (T := TX3) dX3_packedOrder_11 rfl rfl rfl (by decide) (fun w hw => wsU_in (uw_X3 w hw)) (wsU_in fl_X3_42) rfl ?_
    refine AR.iload_n (pc := 14) (j := 2) dX3_packedOrder_14 rfl rfl ?_
    obtain ⟨r2, h2, h⟩ := bd_some h
    refine AR.callVN (pc := 15) (As := [.int x2]) (st := [.int x1]) (ci := 0) dX3_packedOrder_15 ⟨cd_X0_whoAt, im_X0_whoAt, se_X0_whoAt, ini_X0⟩ mn_X3_102 (A0_whoAt 30 grp30 x2 σ _ h2) ⟨rfl, pd_X0_whoAt⟩ ⟨Nat.le_of_ble_eq_true rfl, Nat.le_of_ble_eq_true rfl⟩ ⟨rfl, rfl⟩ rfl rfl rfl (Nat.le_of_ble_eq_true rfl) ?_
    refine AR.iload_n (pc := 18) (j := 2) dX3_packedOrder_18 rfl rfl ?_
    refine AR.iconst (pc := 19) (v := 3) dX3_packedOrder_19 (by decide) ?_
    refine AR.imul (pc := 20) dX3_packedOrder_20 ?_
    refine AR.ishl (pc := 21) dX3_packedOrder_21 ?_
    refine AR.ior (pc := 22) dX3_packedOrder_22 ?_
    refine AR.istore_n (pc := 23) (L2 := [(1, .int (x1 ||| ((r2.1) <<< ((x2 * 3) &&& 31)))), (0, .ref 44), (2, .int x2)]) dX3_packedOrder_23 rfl (by decide) rfl ?_
    refine AR.iinc (pc := 24) (j := 2) (v := (x2 + 1)) (L2 := [(2, .int (x2 + 1)), (1, .int (x1 ||| ((r2.1) <<< ((x2 * 3) &&& 31)))), (0, .ref 44)]) dX3_packedOrder_24 rfl rfl (by decide) rfl ?_
    refine AR.goto (pc := 27) (tgt := 4) dX3_packedOrder_27 (by decide) ?_
    exact AR.pick [2, 1, 0] rfl (hk4 ((x1 ||| ((r2.1) <<< ((x2 * 3) &&& 31))), (x2 + 1), r2.2) r h)
theorem A3_packedOrder_4 {l : Launch} (p : Int32 × Int32 × HS) (r : Int32 × HS) (h : f3_packedOrder_4 p = some r) : AR l RX3 cX3_packedOrder 3 (some .int) (wsU yX3_packedOrder cX3_packedOrder 3 (some .int)) rm3_packedOrder SC 4 [(0, .ref 44), (1, .int (p.1)), (2, .int (p.2.1))] [] p.2.2 (some (.int r.1), r.2) := by
  unfold f3_packedOrder_4 at h
  exact wloop_run (body := fun k4 p => f3_packedOrder_4_b k4 p.1 p.2.1 p.2.2) (Q := fun p r => AR l RX3 cX3_packedOrder 3 (some .int) (wsU yX3_packedOrder cX3_packedOrder 3 (some .int)) rm3_packedOrder SC 4 [(0, .ref 44), (1, .int (p.1)), (2, .int (p.2.1))] [] p.2.2 (some (.int r.1), r.2)) (fun k4 hk4 p r h => A3_packedOrder_4_b k4 p.1 p.2.1 hk4 p.2.2 r h) fuelN p r h
set_option maxHeartbeats 4000000 in
set_option maxRecDepth 100000 in
theorem A3_packedOrder {l : Launch} (σ : HS) (r : Int32 × HS) (h : f3_packedOrder σ = some r) : MA l yX3_packedOrder (wsU yX3_packedOrder cX3_packedOrder 3 (some .int)) rm3_packedOrder SC [.ref 44] σ (some (.int r.1), r.2) := by
  refine MA.of (L := [(0, .ref 44)]) pn_X3_packedOrder rfl (fun _ => Nat.le_of_ble_eq_true rfl) (fun _ => rfl) ?_
  unfold f3_packedOrder at h
  refine AR.iconst (pc := 0) (v := 0) dX3_packedOrder_0 (by decide) ?_
  refine AR.istore_n (pc := 1) (L2 := [(1, .int 0), (0, .ref 44)]) dX3_packedOrder_1 rfl (by decide) rfl ?_
  refine AR.iconst (pc := 2) (v := 0) dX3_packedOrder_2 (by decide) ?_
  refine AR.istore_n (pc := 3) (L2 := [(2, .int 0), (1, .int 0), (0, .ref 44)]) dX3_packedOrder_3 rfl (by decide) rfl ?_
  exact AR.pick [2, 1, 0] rfl (A3_packedOrder_4 (0, 0, σ) r h)
set_option maxHeartbeats 4000000 in
set_option maxRecDepth 100000 in
theorem A3_noteWords_84 {l : Launch} (k2 : Int32 × HS → Option (HS)) (x1 : Int32) (x2 : Int32) (x3 : Int32) (hk2 : ∀ (p : Int32 × HS) (r : HS), k2 p = some r → AR l RX3 cX3_noteWords 6 none (wsU yX3_noteWords cX3_noteWords 6 none) rm3_noteWords SC 2 [(0, .ref 44), (1, .int x1), (2, .int x2), (3, .int (p.1))] [] p.2 (none, r)) (σ : HS) (r : HS) (h : f3_noteWords_84 k2 x1 x2 x3 σ = some r) : AR l RX3 cX3_noteWords 6 none (wsU yX3_noteWords cX3_noteWords 6 none) rm3_noteWords SC 84 [(0, .ref 44), (1, .int x1), (2, .int x2), (3, .int x3)] [] σ (none, r) := by
  unfold f3_noteWords_84 at h
  refine AR.iinc (pc := 84) (j := 3) (v := (x3 + 1)) (L2 := [(3, .int (x3 + 1)), (0, .ref 44), (1, .int x1), (2, .int x2)]) dX3_noteWords_84 rfl rfl (by decide) rfl ?_
  refine AR.goto (pc := 87) (tgt := 2) dX3_noteWords_87 (by decide) ?_
  exact AR.pick [1, 2, 3, 0] rfl (hk2 ((x3 + 1), σ) r h)
set_option maxHeartbeats 4000000 in
set_option maxRecDepth 100000 in
theorem A3_noteWords_2_b {l : Launch} (k2 : Int32 × HS → Option (HS)) (x1 : Int32) (x2 : Int32) (x3 : Int32) (hk2 : ∀ (p : Int32 × HS) (r : HS), k2 p = some r → AR l RX3 cX3_noteWords 6 none (wsU yX3_noteWords cX3_noteWords 6 none) rm3_noteWords SC 2 [(0, .ref 44), (1, .int x1), (2, .int x2), (3, .int (p.1))] [] p.2 (none, r)) (σ : HS) (r : HS) (h : f3_noteWords_2_b k2 x1 x2 x3 σ = some r) : AR l RX3 cX3_noteWords 6 none (wsU yX3_noteWords cX3_noteWords 6 none) rm3_noteWords SC 2 [(0, .ref 44), (1, .int x1), (2, .int x2), (3, .int x3)] [] σ (none, r) := by
  unfold f3_noteWords_2_b at h
  refine AR.iload_n (pc := 2) (j := 3) dX3_noteWords_2 rfl rfl ?_
  refine AR.aload_n (pc := 3) (j := 0) dX3_noteWords_3 rfl rfl ?_
  refine AR.getf (pc := 4) (ci := 3) (j := 1) (d := 30 + 2) (v := .ref 30) (T := TX3) dX3_noteWords_4 rfl rfl rfl (by decide) (fun w hw => wsU_in (uw_X3 w hw)) (wsU_in fl_X3_42) rfl ?_
  obtain ⟨r1, h1, h⟩ := bd_some h
  refine AR.callVN (pc := 7) (As := []) (st := [.int x3]) (ci := 0) dX3_noteWords_7 ⟨cd_X0_turns, im_X0_turns, se_X0_turns, ini_X0⟩ mn_X3_82 (A0_turns 30 grp30 σ _ h1) ⟨rfl, pd_X0_turns⟩ ⟨Nat.le_of_ble_eq_true rfl, Nat.le_of_ble_eq_true rfl⟩ ⟨rfl, rfl⟩ rfl rfl rfl (Nat.le_of_ble_eq_true rfl) ?_
  refine AR.icmp_ge (pc := 10) (tgt := 90) dX3_noteWords_10 (by decide) (fun c2 => ?_) (fun c2 => ?_)
  · replace h := ite_t c2 h
    exact AR.vret (pc := 90) rfl dX3_noteWords_90 (hrV (Option.some.inj h))
  · replace h := ite_f c2 h
    refine AR.iload_n (pc := 13) (j := 3) dX3_noteWords_13 rfl rfl ?_
    refine AR.bipush (pc := 14) (v := 6) dX3_noteWords_14 (by decide) ?_
    refine AR.icmp_ge (pc := 16) (tgt := 90) dX3_noteWords_16 (by decide) (fun c3 => ?_) (fun c3 => ?_)
    · replace h := ite_t c3 h
      exact AR.vret (pc := 90) rfl dX3_noteWords_90 (hrV (Option.some.inj h))
    · replace h := ite_f c3 h
      refine AR.aload_n (pc := 19) (j := 0) dX3_noteWords_19 rfl rfl ?_
      refine AR.getf (pc := 20) (ci := 3) (j := 3) (d := 37 + 2) (v := .ref 37) (T := TX3) dX3_noteWords_20 rfl rfl rfl (by decide) (fun w hw => wsU_in (uw_X3 w hw)) (wsU_in fl_X3_26) rfl ?_
      refine AR.iload_n (pc := 23) (j := 3) dX3_noteWords_23 rfl rfl ?_
      obtain ⟨r4, h4, h⟩ := bd_some h
      refine AR.callVN (pc := 24) (As := [.int x3]) (st := []) (ci := 1) dX3_noteWords_24 ⟨cd_X1_saidIn, im_X1_saidIn, se_X1_saidIn, ini_X1⟩ mn_X3_85 (A1_saidIn 30 grp30 x3 (r1.2) _ h4) ⟨rfl, pd_X1_saidIn⟩ ⟨Nat.le_of_ble_eq_true rfl, Nat.le_of_ble_eq_true rfl⟩ ⟨rfl, rfl⟩ rfl rfl rfl (Nat.le_of_ble_eq_true rfl) ?_
      refine AR.istore (pc := 27) (L2 := [(4, .int (r4.1)), (0, .ref 44), (1, .int x1), (2, .int x2), (3, .int x3)]) dX3_noteWords_27 (by decide) rfl ?_
      refine AR.aload_n (pc := 29) (j := 1) dX3_noteWords_29 rfl rfl ?_
      refine AR.getf (pc := 30) (ci := 3) (j := 1) (d := 30 + 2) (v := .ref 30) (T := TX3) dX3_noteWords_30 rfl rfl rfl (by decide) (fun w hw => wsU_in (uw_X3 w hw)) (wsU_in fl_X3_42) rfl ?_
      refine AR.iload_n (pc := 33) (j := 4) dX3_noteWords_33 rfl rfl ?_
      obtain ⟨r5, h5, h⟩ := bd_some h
      refine AR.callVN (pc := 34) (As := [.int x3]) (st := []) (ci := 0) dX3_noteWords_34 ⟨cd_X0_whoIn, im_X0_whoIn, se_X0_whoIn, ini_X0⟩ mn_X3_89 (A0_whoIn 30 grp30 x3 (r4.2) _ h5) ⟨rfl, pd_X0_whoIn⟩ ⟨Nat.le_of_ble_eq_true rfl, Nat.le_of_ble_eq_true rfl⟩ ⟨rfl, rfl⟩ rfl rfl rfl (Nat.le_of_ble_eq_true rfl) ?_
      refine AR.iload (pc := 37) (j := 0) dX3_noteWords_37 rfl ?_
      obtain ⟨r6, h6, h⟩ := bd_some h
      refine AR.callSN (pc := 39) (As := [.int (r5.1), .int (r4.1)]) (st := []) dX3_noteWords_39 ⟨cd_X4_placeOfWord, sm_X4_placeOfWord, ini_X4⟩ mn_X3_92 (A4_placeOfWord (r5.1) (r4.1) (r5.2) _ h6) pd_X4_placeOfWord ⟨Nat.le_of_ble_eq_true rfl, Nat.le_of_ble_eq_true rfl⟩ ⟨rfl, rfl⟩ rfl (Nat.le_of_ble_eq_true rfl) ?_
      refine AR.istore (pc := 42) (L2 := [(5, .int (r6.1)), (4, .int (r4.1)), (0, .ref 44), (1, .int x1), (2, .int x2), (3, .int x3)]) dX3_noteWords_42 (by decide) rfl ?_
      refine AR.iload (pc := 44) (j := 1) dX3_noteWords_44 rfl ?_
      refine AR.bipush (pc := 46) (v := (-9)) dX3_noteWords_46 (by decide) ?_
      refine AR.icmp_eq (pc := 48) (tgt := 84) dX3_noteWords_48 (by decide) (fun c7 => ?_) (fun c7 => ?_)
      · replace h := ite_t c7 h
        exact AR.pick [2, 3, 4, 5] rfl (A3_noteWords_84 k2 x1 x2 x3 hk2 (r6.2) r h)
      · replace h := ite_f c7 h
        refine AR.iload_n (pc := 51) (j := 3) dX3_noteWords_51 rfl rfl ?_
        refine AR.aload_n (pc := 52) (j := 2) dX3_noteWords_52 rfl rfl ?_
        refine AR.getf (pc := 53) (ci := 3) (j := 4) (d := 45 + 2) (v := .ref 45) (T := TX3) dX3_noteWords_53 rfl rfl rfl (by decide) (fun w hw => wsU_in (uw_X3 w hw)) (wsU_in fl_X3_9) rfl ?_
        refine AR.iload (pc := 56) (j := 0) dX3_noteWords_56 rfl ?_
        obtain ⟨r8, h8, h⟩ := bd_some h
        refine AR.callSN (pc := 58) (As := [.ref 45, .int (r6.1)]) (st := [.int x1]) dX3_noteWords_58 ⟨cd_X8_at, sm_X8_at, ini_X8⟩ mn_X3_98 (A8_at 45 15 rfl (r6.1) (r6.2) _ h8) pd_X8_at ⟨Nat.le_of_ble_eq_true rfl, Nat.le_of_ble_eq_true rfl⟩ ⟨rfl, rfl⟩ rfl (Nat.le_of_ble_eq_true rfl) ?_
        refine AR.icmp_ge (pc := 61) (tgt := 84) dX3_noteWords_61 (by decide) (fun c9 => ?_) (fun c9 => ?_)
        · replace h := ite_t c9 h
          exact AR.pick [2, 3, 4, 5] rfl (A3_noteWords_84 k2 x1 x2 x3 hk2 (r8.2) r h)
        · replace h := ite_f c9 h
          refine AR.aload_n (pc := 64) (j := 2) dX3_noteWords_64 rfl rfl ?_
          refine AR.getf (pc := 65) (ci := 3) (j := 4) (d := 45 + 2) (v := .ref 45) (T := TX3) dX3_noteWords_65 rfl rfl rfl (by decide) (fun w hw => wsU_in (uw_X3 w hw)) (wsU_in fl_X3_9) rfl ?_
          refine AR.iload (pc := 68) (j := 0) dX3_noteWords_68 rfl ?_
          refine AR.iload_n (pc := 70) (j := 3) dX3_noteWords_70 rfl rfl ?_
          obtain ⟨r10, h10, h⟩ := bd_some h
          refine AR.callSN (pc := 71) (As := [.ref 45, .int (r6.1), .int x1]) (st := []) dX3_noteWords_71 ⟨cd_X8_set, sm_X8_set, ini_X8⟩ mn_X3_45 (A8_set 45 15 rfl (r6.1) x1 (r8.2) _ h10) pd_X8_set ⟨Nat.le_of_ble_eq_true rfl, Nat.le_of_ble_eq_true rfl⟩ ⟨rfl, rfl⟩ rfl (Nat.le_of_ble_eq_true rfl) ?_
          refine AR.aload_n (pc := 74) (j := 2) dX3_noteWords_74 rfl rfl ?_
          refine AR.getf (pc := 75) (ci := 3) (j := 5) (d := 46 + 2) (v := .ref 46) (T := TX3) dX3_noteWords_75 rfl rfl rfl (by decide) (fun w hw => wsU_in (uw_X3 w hw)) (wsU_in fl_X3_15) rfl ?_
          refine AR.iload (pc := 78) (j := 0) dX3_noteWords_78 rfl ?_
          refine AR.iload_n (pc := 80) (j := 4) dX3_noteWords_80 rfl rfl ?_
          obtain ⟨r11, h11, h⟩ := bd_some h
          refine AR.callSN (pc := 81) (As := [.ref 46, .int (r6.1), .int x2]) (st := []) dX3_noteWords_81 ⟨cd_X8_set, sm_X8_set, ini_X8⟩ mn_X3_45 (A8_set 46 15 rfl (r6.1) x2 r10 _ h11) pd_X8_set ⟨Nat.le_of_ble_eq_true rfl, Nat.le_of_ble_eq_true rfl⟩ ⟨rfl, rfl⟩ rfl (Nat.le_of_ble_eq_true rfl) ?_
          exact AR.pick [2, 3, 4, 5] rfl (A3_noteWords_84 k2 x1 x2 x3 hk2 r11 r h)
theorem A3_noteWords_2 {l : Launch} (x1 : Int32) (x2 : Int32) (p : Int32 × HS) (r : HS) (h : f3_noteWords_2 x1 x2 p = some r) : AR l RX3 cX3_noteWords 6 none (wsU yX3_noteWords cX3_noteWords 6 none) rm3_noteWords SC 2 [(0, .ref 44), (1, .int x1), (2, .int x2), (3, .int (p.1))] [] p.2 (none, r) := by
  unfold f3_noteWords_2 at h
  exact wloop_run (body := fun k2 p => f3_noteWords_2_b k2 x1 x2 p.1 p.2) (Q := fun p r => AR l RX3 cX3_noteWords 6 none (wsU yX3_noteWords cX3_noteWords 6 none) rm3_noteWords SC 2 [(0, .ref 44), (1, .int x1), (2, .int x2), (3, .int (p.1))] [] p.2 (none, r)) (fun k2 hk2 p r h => A3_noteWords_2_b k2 x1 x2 p.1 hk2 p.2 r h) fuelN p r h
set_option maxHeartbeats 4000000 in
set_option maxRecDepth 100000 in
theorem A3_noteWords {l : Launch} (x1 : Int32) (x2 : Int32) (σ : HS) (r : HS) (h : f3_noteWords x1 x2 σ = some r) : MA l yX3_noteWords (wsU yX3_noteWords cX3_noteWords 6 none) rm3_noteWords SC [.ref 44, .int x1, .int x2] σ (none, r) := by
  refine MA.of (L := [(0, .ref 44), (1, .int x1), (2, .int x2)]) pn_X3_noteWords rfl (fun _ => Nat.le_of_ble_eq_true rfl) (fun _ => rfl) ?_
  unfold f3_noteWords at h
  refine AR.iconst (pc := 0) (v := 0) dX3_noteWords_0 (by decide) ?_
  refine AR.istore_n (pc := 1) (L2 := [(3, .int 0), (0, .ref 44), (1, .int x1), (2, .int x2)]) dX3_noteWords_1 rfl (by decide) rfl ?_
  exact AR.pick [1, 2, 3, 0] rfl (A3_noteWords_2 x1 x2 (0, σ) r h)
set_option maxHeartbeats 4000000 in
set_option maxRecDepth 100000 in
theorem A3_seek_111 {l : Launch} (σ : HS) (r : HS) (h : f3_seek_111 σ = some r) : AR l RX3 cX3_seek 3 none (wsU yX3_seek cX3_seek 3 none) rm3_seek SC 111 [(0, .ref 44)] [] σ (none, r) := by
  unfold f3_seek_111 at h
  refine AR.aload_n (pc := 111) (j := 0) dX3_seek_111 rfl rfl ?_
  refine AR.iconst (pc := 112) (v := 1) dX3_seek_112 (by decide) ?_
  refine AR.putI (pc := 113) (ci := 3) (j := 6) (T := TX3) (ty0 := tyX3) (ty := .boolean) dX3_seek_113 rfl rfl rfl (by decide) (fun w hw => wsU_in (uw_X3 w hw)) tyX3_ok nmX3 (wsU_in fl_X3_18) rfl (by decide +kernel) rfl rfl ?_
  exact AR.vret (pc := 116) rfl dX3_seek_116 (hrV (Option.some.inj h))
set_option maxHeartbeats 4000000 in
set_option maxRecDepth 100000 in
theorem A3_seek_54_b {l : Launch} (k54 : Int32 × Int32 × HS → Option (HS)) (x1 : Int32) (x2 : Int32) (hk54 : ∀ (p : Int32 × Int32 × HS) (r : HS), k54 p = some r → AR l RX3 cX3_seek 3 none (wsU yX3_seek cX3_seek 3 none) rm3_seek SC 54 [(0, .ref 44), (1, .int (p.1)), (2, .int (p.2.1))] [] p.2.2 (none, r)) (σ : HS) (r : HS) (h : f3_seek_54_b k54 x1 x2 σ = some r) : AR l RX3 cX3_seek 3 none (wsU yX3_seek cX3_seek 3 none) rm3_seek SC 54 [(0, .ref 44), (1, .int x1), (2, .int x2)] [] σ (none, r) := by
  unfold f3_seek_54_b at h
  refine AR.iload_n (pc := 54) (j := 2) dX3_seek_54 rfl rfl ?_
  refine AR.bipush (pc := 55) (v := 120) dX3_seek_55 (by decide) ?_
  refine AR.icmp_ge (pc := 57) (tgt := 111) dX3_seek_57 (by decide) (fun c1 => ?_) (fun c1 => ?_)
  · replace h := ite_t c1 h
    exact AR.pick [0] rfl (A3_seek_111 σ r h)
  · replace h := ite_f c1 h
    refine AR.iload_n (pc := 60) (j := 1) dX3_seek_60 rfl rfl ?_
    refine AR.if_eq (pc := 61) (tgt := 111) dX3_seek_61 (by decide) (fun c2 => ?_) (fun c2 => ?_)
    · replace h := ite_t c2 h
      exact AR.pick [0] rfl (A3_seek_111 σ r h)
    · replace h := ite_f c2 h
      refine AR.aload_n (pc := 64) (j := 0) dX3_seek_64 rfl rfl ?_
      refine AR.getf (pc := 65) (ci := 3) (j := 2) (d := 32 + 2) (v := .ref 32) (T := TX3) dX3_seek_65 rfl rfl rfl (by decide) (fun w hw => wsU_in (uw_X3 w hw)) (wsU_in fl_X3_36) rfl ?_
      obtain ⟨r3, h3, h⟩ := bd_some h
      refine AR.callVN (pc := 68) (As := []) (st := []) (ci := 5) dX3_seek_68 ⟨cd_X5_makeForFreeDay, im_X5_makeForFreeDay, se_X5_makeForFreeDay, ini_X5⟩ mn_X3_58 (A5_makeForFreeDay σ _ h3) ⟨rfl, pd_X5_makeForFreeDay⟩ ⟨Nat.le_of_ble_eq_true rfl, Nat.le_of_ble_eq_true rfl⟩ ⟨rfl, rfl⟩ rfl rfl rfl (Nat.le_of_ble_eq_true rfl) ?_
      refine AR.aload_n (pc := 71) (j := 0) dX3_seek_71 rfl rfl ?_
      refine AR.getf (pc := 72) (ci := 3) (j := 3) (d := 37 + 2) (v := .ref 37) (T := TX3) dX3_seek_72 rfl rfl rfl (by decide) (fun w hw => wsU_in (uw_X3 w hw)) (wsU_in fl_X3_26) rfl ?_
      obtain ⟨r4, h4, h⟩ := bd_some h
      refine AR.callVN (pc := 75) (As := []) (st := []) (ci := 1) dX3_seek_75 ⟨cd_X1_goFreely, im_X1_goFreely, se_X1_goFreely, ini_X1⟩ mn_X3_63 (A1_goFreely 30 grp30 r3 _ h4) ⟨rfl, pd_X1_goFreely⟩ ⟨Nat.le_of_ble_eq_true rfl, Nat.le_of_ble_eq_true rfl⟩ ⟨rfl, rfl⟩ rfl rfl rfl (Nat.le_of_ble_eq_true rfl) ?_
      refine AR.aload_n (pc := 78) (j := 0) dX3_seek_78 rfl rfl ?_
      refine AR.aload_n (pc := 79) (j := 0) dX3_seek_79 rfl rfl ?_
      refine AR.getf (pc := 80) (ci := 3) (j := 1) (d := 30 + 2) (v := .ref 30) (T := TX3) dX3_seek_80 rfl rfl rfl (by decide) (fun w hw => wsU_in (uw_X3 w hw)) (wsU_in fl_X3_42) rfl ?_
      refine AR.aload_n (pc := 83) (j := 0) dX3_seek_83 rfl rfl ?_
      refine AR.getf (pc := 84) (ci := 3) (j := 0) (d := 20 + 2) (v := .ref 20) (T := TX3) dX3_seek_84 rfl rfl rfl (by decide) (fun w hw => wsU_in (uw_X3 w hw)) (wsU_in fl_X3_22) rfl ?_
      obtain ⟨r5, h5, h⟩ := bd_some h
      refine AR.callVN (pc := 87) (As := [.ref 20]) (st := [.ref 44]) (ci := 0) dX3_seek_87 ⟨cd_X0_changesFrom, im_X0_changesFrom, se_X0_changesFrom, ini_X0⟩ mn_X3_66 (A0_changesFrom r4 _ h5) ⟨rfl, pd_X0_changesFrom⟩ ⟨Nat.le_of_ble_eq_true rfl, Nat.le_of_ble_eq_true rfl⟩ ⟨rfl, rfl⟩ rfl rfl rfl (Nat.le_of_ble_eq_true rfl) ?_
      refine AR.aload_n (pc := 90) (j := 0) dX3_seek_90 rfl rfl ?_
      obtain ⟨r6, h6, h⟩ := bd_some h
      refine AR.callV (pc := 91) (As := []) (st := [.int (r5.1), .ref 44]) (ci := 3) dX3_seek_91 ⟨cd_X3_packedOrder, im_X3_packedOrder, se_X3_packedOrder, ini_X3⟩ ml_X3_70 (A3_packedOrder (r5.2) _ h6) ⟨rfl, pd_X3_packedOrder⟩ ⟨Nat.le_of_ble_eq_true rfl, Nat.le_of_ble_eq_true rfl⟩ ⟨rfl, rfl⟩ rfl rfl rfl (Nat.le_of_ble_eq_true rfl) ?_
      obtain ⟨r7, h7, h⟩ := bd_some h
      refine AR.callV (pc := 94) (As := [.int (r5.1), .int (r6.1)]) (st := []) (ci := 3) dX3_seek_94 ⟨cd_X3_noteWords, im_X3_noteWords, se_X3_noteWords, ini_X3⟩ ml_X3_74 (A3_noteWords (r5.1) (r6.1) (r6.2) _ h7) ⟨rfl, pd_X3_noteWords⟩ ⟨Nat.le_of_ble_eq_true rfl, Nat.le_of_ble_eq_true rfl⟩ ⟨rfl, rfl⟩ rfl rfl rfl (Nat.le_of_ble_eq_true rfl) ?_
      refine AR.aload_n (pc := 97) (j := 0) dX3_seek_97 rfl rfl ?_
      refine AR.getf (pc := 98) (ci := 3) (j := 1) (d := 30 + 2) (v := .ref 30) (T := TX3) dX3_seek_98 rfl rfl rfl (by decide) (fun w hw => wsU_in (uw_X3 w hw)) (wsU_in fl_X3_42) rfl ?_
      obtain ⟨r8, h8, h⟩ := bd_some h
      refine AR.callVN (pc := 101) (As := []) (st := []) (ci := 0) dX3_seek_101 ⟨cd_X0_takeNextOrder, im_X0_takeNextOrder, se_X0_takeNextOrder, ini_X0⟩ mn_X3_78 (A0_takeNextOrder r7 _ h8) ⟨rfl, pd_X0_takeNextOrder⟩ ⟨Nat.le_of_ble_eq_true rfl, Nat.le_of_ble_eq_true rfl⟩ ⟨rfl, rfl⟩ rfl rfl rfl (Nat.le_of_ble_eq_true rfl) ?_
      refine AR.istore_n (pc := 104) (L2 := [(1, .int (r8.1)), (0, .ref 44), (2, .int x2)]) dX3_seek_104 rfl (by decide) rfl ?_
      refine AR.iinc (pc := 105) (j := 2) (v := (x2 + 1)) (L2 := [(2, .int (x2 + 1)), (1, .int (r8.1)), (0, .ref 44)]) dX3_seek_105 rfl rfl (by decide) rfl ?_
      refine AR.goto (pc := 108) (tgt := 54) dX3_seek_108 (by decide) ?_
      exact AR.pick [2, 1, 0] rfl (hk54 (r8.1, (x2 + 1), r8.2) r h)
theorem A3_seek_54 {l : Launch} (p : Int32 × Int32 × HS) (r : HS) (h : f3_seek_54 p = some r) : AR l RX3 cX3_seek 3 none (wsU yX3_seek cX3_seek 3 none) rm3_seek SC 54 [(0, .ref 44), (1, .int (p.1)), (2, .int (p.2.1))] [] p.2.2 (none, r) := by
  unfold f3_seek_54 at h
  exact wloop_run (body := fun k54 p => f3_seek_54_b k54 p.1 p.2.1 p.2.2) (Q := fun p r => AR l RX3 cX3_seek 3 none (wsU yX3_seek cX3_seek 3 none) rm3_seek SC 54 [(0, .ref 44), (1, .int (p.1)), (2, .int (p.2.1))] [] p.2.2 (none, r)) (fun k54 hk54 p r h => A3_seek_54_b k54 p.1 p.2.1 hk54 p.2.2 r h) fuelN p r h
set_option maxHeartbeats 4000000 in
set_option maxRecDepth 100000 in
theorem A3_seek_10_b {l : Launch} (k10 : Int32 × HS → Option (HS)) (x1 : Int32) (hk10 : ∀ (p : Int32 × HS) (r : HS), k10 p = some r → AR l RX3 cX3_seek 3 none (wsU yX3_seek cX3_seek 3 none) rm3_seek SC 10 [(0, .ref 44), (1, .int (p.1))] [] p.2 (none, r)) (σ : HS) (r : HS) (h : f3_seek_10_b k10 x1 σ = some r) : AR l RX3 cX3_seek 3 none (wsU yX3_seek cX3_seek 3 none) rm3_seek SC 10 [(0, .ref 44), (1, .int x1)] [] σ (none, r) := by
  unfold f3_seek_10_b at h
  refine AR.iload_n (pc := 10) (j := 1) dX3_seek_10 rfl rfl ?_
  refine AR.bipush (pc := 11) (v := 15) dX3_seek_11 (by decide) ?_
  refine AR.icmp_ge (pc := 13) (tgt := 32) dX3_seek_13 (by decide) (fun c1 => ?_) (fun c1 => ?_)
  · replace h := ite_t c1 h
    refine AR.aload_n (pc := 32) (j := 0) dX3_seek_32 rfl rfl ?_
    refine AR.getf (pc := 33) (ci := 3) (j := 1) (d := 30 + 2) (v := .ref 30) (T := TX3) dX3_seek_33 rfl rfl rfl (by decide) (fun w hw => wsU_in (uw_X3 w hw)) (wsU_in fl_X3_42) rfl ?_
    refine AR.aload_n (pc := 36) (j := 0) dX3_seek_36 rfl rfl ?_
    refine AR.getf (pc := 37) (ci := 3) (j := 0) (d := 20 + 2) (v := .ref 20) (T := TX3) dX3_seek_37 rfl rfl rfl (by decide) (fun w hw => wsU_in (uw_X3 w hw)) (wsU_in fl_X3_22) rfl ?_
    obtain ⟨r2, h2, h⟩ := bd_some h
    refine AR.callVN (pc := 40) (As := [.ref 20]) (st := []) (ci := 0) dX3_seek_40 ⟨cd_X0_follow, im_X0_follow, se_X0_follow, ini_X0⟩ mn_X3_49 (A0_follow σ _ h2) ⟨rfl, pd_X0_follow⟩ ⟨Nat.le_of_ble_eq_true rfl, Nat.le_of_ble_eq_true rfl⟩ ⟨rfl, rfl⟩ rfl rfl rfl (Nat.le_of_ble_eq_true rfl) ?_
    refine AR.aload_n (pc := 43) (j := 0) dX3_seek_43 rfl rfl ?_
    refine AR.getf (pc := 44) (ci := 3) (j := 1) (d := 30 + 2) (v := .ref 30) (T := TX3) dX3_seek_44 rfl rfl rfl (by decide) (fun w hw => wsU_in (uw_X3 w hw)) (wsU_in fl_X3_42) rfl ?_
    obtain ⟨r3, h3, h⟩ := bd_some h
    refine AR.callVN (pc := 47) (As := []) (st := []) (ci := 0) dX3_seek_47 ⟨cd_X0_takeFirstOrder, im_X0_takeFirstOrder, se_X0_takeFirstOrder, ini_X0⟩ mn_X3_55 (A0_takeFirstOrder 30 grp30 r2 _ h3) ⟨rfl, pd_X0_takeFirstOrder⟩ ⟨Nat.le_of_ble_eq_true rfl, Nat.le_of_ble_eq_true rfl⟩ ⟨rfl, rfl⟩ rfl rfl rfl (Nat.le_of_ble_eq_true rfl) ?_
    refine AR.iconst (pc := 50) (v := 1) dX3_seek_50 (by decide) ?_
    refine AR.istore_n (pc := 51) (L2 := [(1, .int 1), (0, .ref 44)]) dX3_seek_51 rfl (by decide) rfl ?_
    refine AR.iconst (pc := 52) (v := 0) dX3_seek_52 (by decide) ?_
    refine AR.istore_n (pc := 53) (L2 := [(2, .int 0), (1, .int 1), (0, .ref 44)]) dX3_seek_53 rfl (by decide) rfl ?_
    exact AR.pick [2, 1, 0] rfl (A3_seek_54 (1, 0, r3) r h)
  · replace h := ite_f c1 h
    refine AR.aload_n (pc := 16) (j := 0) dX3_seek_16 rfl rfl ?_
    refine AR.getf (pc := 17) (ci := 3) (j := 4) (d := 45 + 2) (v := .ref 45) (T := TX3) dX3_seek_17 rfl rfl rfl (by decide) (fun w hw => wsU_in (uw_X3 w hw)) (wsU_in fl_X3_9) rfl ?_
    refine AR.iload_n (pc := 20) (j := 1) dX3_seek_20 rfl rfl ?_
    refine AR.bipush (pc := 21) (v := 6) dX3_seek_21 (by decide) ?_
    obtain ⟨r4, h4, h⟩ := bd_some h
    refine AR.callSN (pc := 23) (As := [.ref 45, .int x1, .int 6]) (st := []) dX3_seek_23 ⟨cd_X8_set, sm_X8_set, ini_X8⟩ mn_X3_45 (A8_set 45 15 rfl x1 6 σ _ h4) pd_X8_set ⟨Nat.le_of_ble_eq_true rfl, Nat.le_of_ble_eq_true rfl⟩ ⟨rfl, rfl⟩ rfl (Nat.le_of_ble_eq_true rfl) ?_
    refine AR.iinc (pc := 26) (j := 1) (v := (x1 + 1)) (L2 := [(1, .int (x1 + 1)), (0, .ref 44)]) dX3_seek_26 rfl rfl (by decide) rfl ?_
    refine AR.goto (pc := 29) (tgt := 10) dX3_seek_29 (by decide) ?_
    exact AR.pick [1, 0] rfl (hk10 ((x1 + 1), r4) r h)
theorem A3_seek_10 {l : Launch} (p : Int32 × HS) (r : HS) (h : f3_seek_10 p = some r) : AR l RX3 cX3_seek 3 none (wsU yX3_seek cX3_seek 3 none) rm3_seek SC 10 [(0, .ref 44), (1, .int (p.1))] [] p.2 (none, r) := by
  unfold f3_seek_10 at h
  exact wloop_run (body := fun k10 p => f3_seek_10_b k10 p.1 p.2) (Q := fun p r => AR l RX3 cX3_seek 3 none (wsU yX3_seek cX3_seek 3 none) rm3_seek SC 10 [(0, .ref 44), (1, .int (p.1))] [] p.2 (none, r)) (fun k10 hk10 p r h => A3_seek_10_b k10 p.1 hk10 p.2 r h) fuelN p r h
set_option maxHeartbeats 4000000 in
set_option maxRecDepth 100000 in
theorem A3_seek {l : Launch} (σ : HS) (r : HS) (h : f3_seek σ = some r) : MA l yX3_seek (wsU yX3_seek cX3_seek 3 none) rm3_seek SC [.ref 44] σ (none, r) := by
  refine MA.of (L := [(0, .ref 44)]) pn_X3_seek rfl (fun _ => Nat.le_of_ble_eq_true rfl) (fun _ => rfl) ?_
  unfold f3_seek at h
  refine AR.aload_n (pc := 0) (j := 0) dX3_seek_0 rfl rfl ?_
  refine AR.getf (pc := 1) (ci := 3) (j := 6) (d := 0) (v := .int (σ.1 44 6)) (T := TX3) dX3_seek_1 rfl rfl rfl (by decide) (fun w hw => wsU_in (uw_X3 w hw)) (wsU_in fl_X3_18) rfl ?_
  refine AR.if_eq (pc := 4) (tgt := 8) dX3_seek_4 (by decide) (fun c1 => ?_) (fun c1 => ?_)
  · replace h := ite_t c1 h
    refine AR.iconst (pc := 8) (v := 0) dX3_seek_8 (by decide) ?_
    refine AR.istore_n (pc := 9) (L2 := [(1, .int 0), (0, .ref 44)]) dX3_seek_9 rfl (by decide) rfl ?_
    exact AR.pick [1, 0] rfl (A3_seek_10 (0, σ) r h)
  · replace h := ite_f c1 h
    exact AR.vret (pc := 7) rfl dX3_seek_7 (hrV (Option.some.inj h))
set_option maxHeartbeats 4000000 in
set_option maxRecDepth 100000 in
theorem A3_changesFor {l : Launch} (x1 : Int32) (x2 : Int32) (σ : HS) (r : Int32 × HS) (h : f3_changesFor x1 x2 σ = some r) : MA l yX3_changesFor (wsU yX3_changesFor cX3_changesFor 3 (some .int)) rm3_changesFor SC [.ref 44, .int x1, .int x2] σ (some (.int r.1), r.2) := by
  refine MA.of (L := [(0, .ref 44), (1, .int x1), (2, .int x2)]) pn_X3_changesFor rfl (fun _ => Nat.le_of_ble_eq_true rfl) (fun _ => rfl) ?_
  unfold f3_changesFor at h
  refine AR.aload_n (pc := 0) (j := 0) dX3_changesFor_0 rfl rfl ?_
  refine AR.getf (pc := 1) (ci := 3) (j := 4) (d := 45 + 2) (v := .ref 45) (T := TX3) dX3_changesFor_1 rfl rfl rfl (by decide) (fun w hw => wsU_in (uw_X3 w hw)) (wsU_in fl_X3_9) rfl ?_
  refine AR.iload_n (pc := 4) (j := 1) dX3_changesFor_4 rfl rfl ?_
  refine AR.iload_n (pc := 5) (j := 2) dX3_changesFor_5 rfl rfl ?_
  obtain ⟨r1, h1, h⟩ := bd_some h
  refine AR.callSN (pc := 6) (As := [.int x1, .int x2]) (st := [.ref 45]) dX3_changesFor_6 ⟨cd_X4_placeOfWord, sm_X4_placeOfWord, ini_X4⟩ mn_X3_92 (A4_placeOfWord x1 x2 σ _ h1) pd_X4_placeOfWord ⟨Nat.le_of_ble_eq_true rfl, Nat.le_of_ble_eq_true rfl⟩ ⟨rfl, rfl⟩ rfl (Nat.le_of_ble_eq_true rfl) ?_
  obtain ⟨r2, h2, h⟩ := bd_some h
  refine AR.callSN (pc := 9) (As := [.ref 45, .int (r1.1)]) (st := []) dX3_changesFor_9 ⟨cd_X8_at, sm_X8_at, ini_X8⟩ mn_X3_98 (A8_at 45 15 rfl (r1.1) (r1.2) _ h2) pd_X8_at ⟨Nat.le_of_ble_eq_true rfl, Nat.le_of_ble_eq_true rfl⟩ ⟨rfl, rfl⟩ rfl (Nat.le_of_ble_eq_true rfl) ?_
  exact AR.iret (pc := 12) rfl dX3_changesFor_12 (hrI (Option.some.inj h))
set_option maxHeartbeats 4000000 in
set_option maxRecDepth 100000 in
theorem A3_isFound {l : Launch} (x1 : Int32) (x2 : Int32) (σ : HS) (r : Int32 × HS) (h : f3_isFound x1 x2 σ = some r) : MA l yX3_isFound (wsU yX3_isFound cX3_isFound 3 (some .boolean)) rm3_isFound SC [.ref 44, .int x1, .int x2] σ (some (.int r.1), r.2) := by
  refine MA.of (L := [(0, .ref 44), (1, .int x1), (2, .int x2)]) pn_X3_isFound rfl (fun _ => Nat.le_of_ble_eq_true rfl) (fun _ => rfl) ?_
  unfold f3_isFound at h
  refine AR.aload_n (pc := 0) (j := 0) dX3_isFound_0 rfl rfl ?_
  refine AR.iload_n (pc := 1) (j := 1) dX3_isFound_1 rfl rfl ?_
  refine AR.iload_n (pc := 2) (j := 2) dX3_isFound_2 rfl rfl ?_
  obtain ⟨r1, h1, h⟩ := bd_some h
  refine AR.callV (pc := 3) (As := [.int x1, .int x2]) (st := []) (ci := 3) dX3_isFound_3 ⟨cd_X3_changesFor, im_X3_changesFor, se_X3_changesFor, ini_X3⟩ ml_X3_105 (A3_changesFor x1 x2 σ _ h1) ⟨rfl, pd_X3_changesFor⟩ ⟨Nat.le_of_ble_eq_true rfl, Nat.le_of_ble_eq_true rfl⟩ ⟨rfl, rfl⟩ rfl rfl rfl (Nat.le_of_ble_eq_true rfl) ?_
  refine AR.bipush (pc := 6) (v := 6) dX3_isFound_6 (by decide) ?_
  refine AR.icmp_ge (pc := 8) (tgt := 15) dX3_isFound_8 (by decide) (fun c2 => ?_) (fun c2 => ?_)
  · replace h := ite_t c2 h
    refine AR.iconst (pc := 15) (v := 0) dX3_isFound_15 (by decide) ?_
    exact AR.zret (pc := 16) rfl (Or.inl rfl) dX3_isFound_16 (hrI (Option.some.inj h))
  · replace h := ite_f c2 h
    refine AR.iconst (pc := 11) (v := 1) dX3_isFound_11 (by decide) ?_
    refine AR.goto (pc := 12) (tgt := 16) dX3_isFound_12 (by decide) ?_
    exact AR.zret (pc := 16) rfl (Or.inr rfl) dX3_isFound_16 (hrI (Option.some.inj h))
set_option maxHeartbeats 4000000 in
set_option maxRecDepth 100000 in
theorem A3_whoFor {l : Launch} (x1 : Int32) (x2 : Int32) (x3 : Int32) (σ : HS) (r : Int32 × HS) (h : f3_whoFor x1 x2 x3 σ = some r) : MA l yX3_whoFor (wsU yX3_whoFor cX3_whoFor 5 (some .int)) rm3_whoFor SC [.ref 44, .int x1, .int x2, .int x3] σ (some (.int r.1), r.2) := by
  refine MA.of (L := [(0, .ref 44), (1, .int x1), (2, .int x2), (3, .int x3)]) pn_X3_whoFor rfl (fun _ => Nat.le_of_ble_eq_true rfl) (fun _ => rfl) ?_
  unfold f3_whoFor at h
  refine AR.aload_n (pc := 0) (j := 0) dX3_whoFor_0 rfl rfl ?_
  refine AR.getf (pc := 1) (ci := 3) (j := 5) (d := 46 + 2) (v := .ref 46) (T := TX3) dX3_whoFor_1 rfl rfl rfl (by decide) (fun w hw => wsU_in (uw_X3 w hw)) (wsU_in fl_X3_15) rfl ?_
  refine AR.iload_n (pc := 4) (j := 1) dX3_whoFor_4 rfl rfl ?_
  refine AR.iload_n (pc := 5) (j := 2) dX3_whoFor_5 rfl rfl ?_
  obtain ⟨r1, h1, h⟩ := bd_some h
  refine AR.callSN (pc := 6) (As := [.int x1, .int x2]) (st := [.ref 46]) dX3_whoFor_6 ⟨cd_X4_placeOfWord, sm_X4_placeOfWord, ini_X4⟩ mn_X3_92 (A4_placeOfWord x1 x2 σ _ h1) pd_X4_placeOfWord ⟨Nat.le_of_ble_eq_true rfl, Nat.le_of_ble_eq_true rfl⟩ ⟨rfl, rfl⟩ rfl (Nat.le_of_ble_eq_true rfl) ?_
  obtain ⟨r2, h2, h⟩ := bd_some h
  refine AR.callSN (pc := 9) (As := [.ref 46, .int (r1.1)]) (st := []) dX3_whoFor_9 ⟨cd_X8_at, sm_X8_at, ini_X8⟩ mn_X3_98 (A8_at 46 15 rfl (r1.1) (r1.2) _ h2) pd_X8_at ⟨Nat.le_of_ble_eq_true rfl, Nat.le_of_ble_eq_true rfl⟩ ⟨rfl, rfl⟩ rfl (Nat.le_of_ble_eq_true rfl) ?_
  refine AR.istore (pc := 12) (L2 := [(4, .int (r2.1)), (0, .ref 44), (1, .int x1), (2, .int x2), (3, .int x3)]) dX3_whoFor_12 (by decide) rfl ?_
  refine AR.iload (pc := 14) (j := 0) dX3_whoFor_14 rfl ?_
  refine AR.iload_n (pc := 16) (j := 4) dX3_whoFor_16 rfl rfl ?_
  refine AR.iconst (pc := 17) (v := 3) dX3_whoFor_17 (by decide) ?_
  refine AR.imul (pc := 18) dX3_whoFor_18 ?_
  refine AR.ishr (pc := 19) dX3_whoFor_19 ?_
  refine AR.bipush (pc := 20) (v := 7) dX3_whoFor_20 (by decide) ?_
  refine AR.iand (pc := 22) dX3_whoFor_22 ?_
  exact AR.iret (pc := 23) rfl dX3_whoFor_23 (hrI (Option.some.inj h))
set_option maxHeartbeats 4000000 in
set_option maxRecDepth 100000 in
theorem A4_begin {l : Launch} (b : Nat) (hb : Ppl b) (x1 : Int32) (x2 : Int32) (σ : HS) (r : HS) (h : f4_begin b x1 x2 σ = some r) : MA l yX4_begin (wsU yX4_begin cX4_begin 3 none) rm4_begin SC [.ref b, .int x1, .int x2] σ (none, r) := by
  refine MA.of (L := [(0, .ref b), (1, .int x1), (2, .int x2)]) pn_X4_begin rfl (fun _ => Nat.le_of_ble_eq_true rfl) (fun _ => rfl) ?_
  unfold f4_begin at h
  refine AR.aload_n (pc := 0) (j := 0) dX4_begin_0 rfl rfl ?_
  refine AR.iconst (pc := 1) (v := 0) dX4_begin_1 (by decide) ?_
  refine AR.putI (pc := 2) (ci := 4) (j := 0) (T := TX4) (ty0 := tyX4) (ty := .int) dX4_begin_2 (pp0 hb) rfl rfl (by decide) (fun w hw => wsU_in (uw_X4 w hw)) tyX4_ok nmX4 (wsU_in fl_X4_9) rfl (by decide +kernel) rfl rfl ?_
  refine AR.aload_n (pc := 5) (j := 0) dX4_begin_5 rfl rfl ?_
  refine AR.iload_n (pc := 6) (j := 1) dX4_begin_6 rfl rfl ?_
  refine AR.putI (pc := 7) (ci := 4) (j := 1) (T := TX4) (ty0 := tyX4) (ty := .int) dX4_begin_7 (pp0 hb) rfl rfl (by decide) (fun w hw => wsU_in (uw_X4 w hw)) tyX4_ok nmX4 (wsU_in fl_X4_15) rfl (by decide +kernel) rfl rfl ?_
  refine AR.aload_n (pc := 10) (j := 0) dX4_begin_10 rfl rfl ?_
  refine AR.iload_n (pc := 11) (j := 2) dX4_begin_11 rfl rfl ?_
  refine AR.putI (pc := 12) (ci := 4) (j := 2) (T := TX4) (ty0 := tyX4) (ty := .int) dX4_begin_12 (pp0 hb) rfl rfl (by decide) (fun w hw => wsU_in (uw_X4 w hw)) tyX4_ok nmX4 (wsU_in fl_X4_18) rfl (by decide +kernel) rfl rfl ?_
  exact AR.vret (pc := 15) rfl dX4_begin_15 (hrV (Option.some.inj h))
set_option maxHeartbeats 4000000 in
set_option maxRecDepth 100000 in
theorem A4_addSpeaker {l : Launch} (b : Nat) (hb : Ppl b) (x1 : Int32) (σ : HS) (r : HS) (h : f4_addSpeaker b x1 σ = some r) : MA l yX4_addSpeaker (wsU yX4_addSpeaker cX4_addSpeaker 2 none) rm4_addSpeaker SC [.ref b, .int x1] σ (none, r) := by
  refine MA.of (L := [(0, .ref b), (1, .int x1)]) pn_X4_addSpeaker rfl (fun _ => Nat.le_of_ble_eq_true rfl) (fun _ => rfl) ?_
  unfold f4_addSpeaker at h
  refine AR.aload_n (pc := 0) (j := 0) dX4_addSpeaker_0 rfl rfl ?_
  refine AR.getf (pc := 1) (ci := 4) (j := 0) (d := 0) (v := .int (σ.1 b 0)) (T := TX4) dX4_addSpeaker_1 (pp0 hb) rfl rfl (by decide) (fun w hw => wsU_in (uw_X4 w hw)) (wsU_in fl_X4_9) rfl ?_
  refine AR.iconst (pc := 4) (v := 5) dX4_addSpeaker_4 (by decide) ?_
  refine AR.icmp_ge (pc := 5) (tgt := 42) dX4_addSpeaker_5 (by decide) (fun c1 => ?_) (fun c1 => ?_)
  · replace h := ite_t c1 h
    exact AR.vret (pc := 42) rfl dX4_addSpeaker_42 (hrV (Option.some.inj h))
  · replace h := ite_f c1 h
    refine AR.aload_n (pc := 8) (j := 0) dX4_addSpeaker_8 rfl rfl ?_
    refine AR.getf (pc := 9) (ci := 4) (j := 3) (d := (b + 1) + 2) (v := .ref (b + 1)) (T := TX4) dX4_addSpeaker_9 (pp0 hb) rfl rfl (by decide) (fun w hw => wsU_in (uw_X4 w hw)) (wsU_in fl_X4_21) rfl ?_
    refine AR.aload_n (pc := 12) (j := 0) dX4_addSpeaker_12 rfl rfl ?_
    refine AR.getf (pc := 13) (ci := 4) (j := 0) (d := 0) (v := .int (σ.1 b 0)) (T := TX4) dX4_addSpeaker_13 (pp0 hb) rfl rfl (by decide) (fun w hw => wsU_in (uw_X4 w hw)) (wsU_in fl_X4_9) rfl ?_
    refine AR.iload_n (pc := 16) (j := 1) dX4_addSpeaker_16 rfl rfl ?_
    obtain ⟨r2, h2, h⟩ := bd_some h
    refine AR.callSN (pc := 17) (As := [.ref (b + 1), .int (σ.1 b 0), .int x1]) (st := []) dX4_addSpeaker_17 ⟨cd_X8_set, sm_X8_set, ini_X8⟩ mn_X4_41 (A8_set (b + 1) 5 (pp1 hb) (σ.1 b 0) x1 σ _ h2) pd_X8_set ⟨Nat.le_of_ble_eq_true rfl, Nat.le_of_ble_eq_true rfl⟩ ⟨rfl, rfl⟩ rfl (Nat.le_of_ble_eq_true rfl) ?_
    refine AR.aload_n (pc := 20) (j := 0) dX4_addSpeaker_20 rfl rfl ?_
    refine AR.getf (pc := 21) (ci := 4) (j := 4) (d := (b + 2) + 2) (v := .ref (b + 2)) (T := TX4) dX4_addSpeaker_21 (pp0 hb) rfl rfl (by decide) (fun w hw => wsU_in (uw_X4 w hw)) (wsU_in fl_X4_25) rfl ?_
    refine AR.aload_n (pc := 24) (j := 0) dX4_addSpeaker_24 rfl rfl ?_
    refine AR.getf (pc := 25) (ci := 4) (j := 0) (d := 0) (v := .int (r2.1 b 0)) (T := TX4) dX4_addSpeaker_25 (pp0 hb) rfl rfl (by decide) (fun w hw => wsU_in (uw_X4 w hw)) (wsU_in fl_X4_9) rfl ?_
    refine AR.iconst (pc := 28) (v := 0) dX4_addSpeaker_28 (by decide) ?_
    obtain ⟨r3, h3, h⟩ := bd_some h
    refine AR.callSN (pc := 29) (As := [.ref (b + 2), .int (r2.1 b 0), .int 0]) (st := []) dX4_addSpeaker_29 ⟨cd_X8_set, sm_X8_set, ini_X8⟩ mn_X4_41 (A8_set (b + 2) 5 (pp2 hb) (r2.1 b 0) 0 r2 _ h3) pd_X8_set ⟨Nat.le_of_ble_eq_true rfl, Nat.le_of_ble_eq_true rfl⟩ ⟨rfl, rfl⟩ rfl (Nat.le_of_ble_eq_true rfl) ?_
    refine AR.aload_n (pc := 32) (j := 0) dX4_addSpeaker_32 rfl rfl ?_
    refine AR.dup (pc := 33) dX4_addSpeaker_33 rfl ?_
    refine AR.getf (pc := 34) (ci := 4) (j := 0) (d := 0) (v := .int (r3.1 b 0)) (T := TX4) dX4_addSpeaker_34 (pp0 hb) rfl rfl (by decide) (fun w hw => wsU_in (uw_X4 w hw)) (wsU_in fl_X4_9) rfl ?_
    refine AR.iconst (pc := 37) (v := 1) dX4_addSpeaker_37 (by decide) ?_
    refine AR.iadd (pc := 38) dX4_addSpeaker_38 ?_
    refine AR.putI (pc := 39) (ci := 4) (j := 0) (T := TX4) (ty0 := tyX4) (ty := .int) dX4_addSpeaker_39 (pp0 hb) rfl rfl (by decide) (fun w hw => wsU_in (uw_X4 w hw)) tyX4_ok nmX4 (wsU_in fl_X4_9) rfl (by decide +kernel) rfl rfl ?_
    exact AR.vret (pc := 42) rfl dX4_addSpeaker_42 (hrV (Option.some.inj h))
set_option maxHeartbeats 4000000 in
set_option maxRecDepth 100000 in
theorem A4_addWord {l : Launch} (b : Nat) (hb : Ppl b) (x1 : Int32) (x2 : Int32) (x3 : Int32) (σ : HS) (r : HS) (h : f4_addWord b x1 x2 x3 σ = some r) : MA l yX4_addWord (wsU yX4_addWord cX4_addWord 7 none) rm4_addWord SC [.ref b, .int x1, .int x2, .int x3] σ (none, r) := by
  refine MA.of (L := [(0, .ref b), (1, .int x1), (2, .int x2), (3, .int x3)]) pn_X4_addWord rfl (fun _ => Nat.le_of_ble_eq_true rfl) (fun _ => rfl) ?_
  unfold f4_addWord at h
  refine AR.aload_n (pc := 0) (j := 0) dX4_addWord_0 rfl rfl ?_
  refine AR.getf (pc := 1) (ci := 4) (j := 0) (d := 0) (v := .int (σ.1 b 0)) (T := TX4) dX4_addWord_1 (pp0 hb) rfl rfl (by decide) (fun w hw => wsU_in (uw_X4 w hw)) (wsU_in fl_X4_9) rfl ?_
  refine AR.iconst (pc := 4) (v := 1) dX4_addWord_4 (by decide) ?_
  refine AR.isub (pc := 5) dX4_addWord_5 ?_
  refine AR.istore (pc := 6) (L2 := [(4, .int ((σ.1 b 0) - 1)), (0, .ref b), (1, .int x1), (2, .int x2), (3, .int x3)]) dX4_addWord_6 (by decide) rfl ?_
  refine AR.aload_n (pc := 8) (j := 1) dX4_addWord_8 rfl rfl ?_
  refine AR.iload (pc := 9) (j := 0) dX4_addWord_9 rfl ?_
  obtain ⟨r1, h1, h⟩ := bd_some h
  refine AR.callV (pc := 11) (As := [.int ((σ.1 b 0) - 1)]) (st := []) (ci := 4) dX4_addWord_11 ⟨cd_X4_wordsOf, im_X4_wordsOf, se_X4_wordsOf, ini_X4⟩ ml_X4_45 (A4_wordsOf b hb ((σ.1 b 0) - 1) σ _ h1) ⟨rfl, pd_X4_wordsOf⟩ ⟨Nat.le_of_ble_eq_true rfl, Nat.le_of_ble_eq_true rfl⟩ ⟨rfl, rfl⟩ (pp0 hb) rfl rfl (Nat.le_of_ble_eq_true rfl) ?_
  refine AR.istore (pc := 14) (L2 := [(5, .int (r1.1)), (4, .int ((σ.1 b 0) - 1)), (0, .ref b), (1, .int x1), (2, .int x2), (3, .int x3)]) dX4_addWord_14 (by decide) rfl ?_
  refine AR.iload (pc := 16) (j := 1) dX4_addWord_16 rfl ?_
  refine AR.if_lt (pc := 18) (tgt := 79) dX4_addWord_18 (by decide) (fun c2 => ?_) (fun c2 => ?_)
  · replace h := ite_t c2 h
    exact AR.vret (pc := 79) rfl dX4_addWord_79 (hrV (Option.some.inj h))
  · replace h := ite_f c2 h
    refine AR.iload (pc := 21) (j := 0) dX4_addWord_21 rfl ?_
    refine AR.iconst (pc := 23) (v := 3) dX4_addWord_23 (by decide) ?_
    refine AR.icmp_ge (pc := 24) (tgt := 79) dX4_addWord_24 (by decide) (fun c3 => ?_) (fun c3 => ?_)
    · replace h := ite_t c3 h
      exact AR.vret (pc := 79) rfl dX4_addWord_79 (hrV (Option.some.inj h))
    · replace h := ite_f c3 h
      refine AR.iload (pc := 27) (j := 1) dX4_addWord_27 rfl ?_
      refine AR.iload (pc := 29) (j := 0) dX4_addWord_29 rfl ?_
      obtain ⟨r4, h4, h⟩ := bd_some h
      refine AR.callS (pc := 31) (As := [.int ((σ.1 b 0) - 1), .int (r1.1)]) (st := []) dX4_addWord_31 ⟨cd_X4_placeOfWord, sm_X4_placeOfWord, ini_X4⟩ ml_X4_49 (A4_placeOfWord ((σ.1 b 0) - 1) (r1.1) (r1.2) _ h4) ⟨rfl, pd_X4_placeOfWord⟩ ⟨Nat.le_of_ble_eq_true rfl, Nat.le_of_ble_eq_true rfl⟩ ⟨rfl, rfl⟩ rfl (Nat.le_of_ble_eq_true rfl) ?_
      refine AR.istore (pc := 34) (L2 := [(6, .int (r4.1)), (5, .int (r1.1)), (4, .int ((σ.1 b 0) - 1)), (0, .ref b), (1, .int x1), (2, .int x2), (3, .int x3)]) dX4_addWord_34 (by decide) rfl ?_
      refine AR.aload_n (pc := 36) (j := 3) dX4_addWord_36 rfl rfl ?_
      refine AR.getf (pc := 37) (ci := 4) (j := 5) (d := (b + 3) + 2) (v := .ref (b + 3)) (T := TX4) dX4_addWord_37 (pp0 hb) rfl rfl (by decide) (fun w hw => wsU_in (uw_X4 w hw)) (wsU_in fl_X4_28) rfl ?_
      refine AR.iload (pc := 40) (j := 0) dX4_addWord_40 rfl ?_
      refine AR.iload_n (pc := 42) (j := 4) dX4_addWord_42 rfl rfl ?_
      obtain ⟨r5, h5, h⟩ := bd_some h
      refine AR.callSN (pc := 43) (As := [.ref (b + 3), .int (r4.1), .int x1]) (st := []) dX4_addWord_43 ⟨cd_X8_set, sm_X8_set, ini_X8⟩ mn_X4_41 (A8_set (b + 3) 15 (pp3 hb) (r4.1) x1 (r4.2) _ h5) pd_X8_set ⟨Nat.le_of_ble_eq_true rfl, Nat.le_of_ble_eq_true rfl⟩ ⟨rfl, rfl⟩ rfl (Nat.le_of_ble_eq_true rfl) ?_
      refine AR.aload_n (pc := 46) (j := 3) dX4_addWord_46 rfl rfl ?_
      refine AR.getf (pc := 47) (ci := 4) (j := 6) (d := (b + 4) + 2) (v := .ref (b + 4)) (T := TX4) dX4_addWord_47 (pp0 hb) rfl rfl (by decide) (fun w hw => wsU_in (uw_X4 w hw)) (wsU_in fl_X4_31) rfl ?_
      refine AR.iload (pc := 50) (j := 0) dX4_addWord_50 rfl ?_
      refine AR.iload_n (pc := 52) (j := 5) dX4_addWord_52 rfl rfl ?_
      obtain ⟨r6, h6, h⟩ := bd_some h
      refine AR.callSN (pc := 53) (As := [.ref (b + 4), .int (r4.1), .int x2]) (st := []) dX4_addWord_53 ⟨cd_X8_set, sm_X8_set, ini_X8⟩ mn_X4_41 (A8_set (b + 4) 15 (pp4 hb) (r4.1) x2 r5 _ h6) pd_X8_set ⟨Nat.le_of_ble_eq_true rfl, Nat.le_of_ble_eq_true rfl⟩ ⟨rfl, rfl⟩ rfl (Nat.le_of_ble_eq_true rfl) ?_
      refine AR.aload_n (pc := 56) (j := 3) dX4_addWord_56 rfl rfl ?_
      refine AR.getf (pc := 57) (ci := 4) (j := 7) (d := (b + 5) + 2) (v := .ref (b + 5)) (T := TX4) dX4_addWord_57 (pp0 hb) rfl rfl (by decide) (fun w hw => wsU_in (uw_X4 w hw)) (wsU_in fl_X4_34) rfl ?_
      refine AR.iload (pc := 60) (j := 0) dX4_addWord_60 rfl ?_
      refine AR.iload_n (pc := 62) (j := 6) dX4_addWord_62 rfl rfl ?_
      obtain ⟨r7, h7, h⟩ := bd_some h
      refine AR.callSN (pc := 63) (As := [.ref (b + 5), .int (r4.1), .int x3]) (st := []) dX4_addWord_63 ⟨cd_X8_set, sm_X8_set, ini_X8⟩ mn_X4_41 (A8_set (b + 5) 15 (pp5 hb) (r4.1) x3 r6 _ h7) pd_X8_set ⟨Nat.le_of_ble_eq_true rfl, Nat.le_of_ble_eq_true rfl⟩ ⟨rfl, rfl⟩ rfl (Nat.le_of_ble_eq_true rfl) ?_
      refine AR.aload_n (pc := 66) (j := 3) dX4_addWord_66 rfl rfl ?_
      refine AR.getf (pc := 67) (ci := 4) (j := 4) (d := (b + 2) + 2) (v := .ref (b + 2)) (T := TX4) dX4_addWord_67 (pp0 hb) rfl rfl (by decide) (fun w hw => wsU_in (uw_X4 w hw)) (wsU_in fl_X4_25) rfl ?_
      refine AR.iload (pc := 70) (j := 2) dX4_addWord_70 rfl ?_
      refine AR.iload (pc := 72) (j := 1) dX4_addWord_72 rfl ?_
      refine AR.iconst (pc := 74) (v := 1) dX4_addWord_74 (by decide) ?_
      refine AR.iadd (pc := 75) dX4_addWord_75 ?_
      obtain ⟨r8, h8, h⟩ := bd_some h
      refine AR.callSN (pc := 76) (As := [.ref (b + 2), .int ((σ.1 b 0) - 1), .int ((r1.1) + 1)]) (st := []) dX4_addWord_76 ⟨cd_X8_set, sm_X8_set, ini_X8⟩ mn_X4_41 (A8_set (b + 2) 5 (pp2 hb) ((σ.1 b 0) - 1) ((r1.1) + 1) r7 _ h8) pd_X8_set ⟨Nat.le_of_ble_eq_true rfl, Nat.le_of_ble_eq_true rfl⟩ ⟨rfl, rfl⟩ rfl (Nat.le_of_ble_eq_true rfl) ?_
      exact AR.vret (pc := 79) rfl dX4_addWord_79 (hrV (Option.some.inj h))
set_option maxHeartbeats 4000000 in
set_option maxRecDepth 100000 in
theorem A4_ownOf {l : Launch} (b : Nat) (hb : Ppl b) (x1 : Int32) (x2 : Int32) (σ : HS) (r : Int32 × HS) (h : f4_ownOf b x1 x2 σ = some r) : MA l yX4_ownOf (wsU yX4_ownOf cX4_ownOf 3 (some .int)) rm4_ownOf SC [.ref b, .int x1, .int x2] σ (some (.int r.1), r.2) := by
  refine MA.of (L := [(0, .ref b), (1, .int x1), (2, .int x2)]) pn_X4_ownOf rfl (fun _ => Nat.le_of_ble_eq_true rfl) (fun _ => rfl) ?_
  unfold f4_ownOf at h
  refine AR.aload_n (pc := 0) (j := 0) dX4_ownOf_0 rfl rfl ?_
  refine AR.getf (pc := 1) (ci := 4) (j := 6) (d := (b + 4) + 2) (v := .ref (b + 4)) (T := TX4) dX4_ownOf_1 (pp0 hb) rfl rfl (by decide) (fun w hw => wsU_in (uw_X4 w hw)) (wsU_in fl_X4_31) rfl ?_
  refine AR.iload_n (pc := 4) (j := 1) dX4_ownOf_4 rfl rfl ?_
  refine AR.iload_n (pc := 5) (j := 2) dX4_ownOf_5 rfl rfl ?_
  obtain ⟨r1, h1, h⟩ := bd_some h
  refine AR.callS (pc := 6) (As := [.int x1, .int x2]) (st := [.ref (b + 4)]) dX4_ownOf_6 ⟨cd_X4_placeOfWord, sm_X4_placeOfWord, ini_X4⟩ ml_X4_49 (A4_placeOfWord x1 x2 σ _ h1) ⟨rfl, pd_X4_placeOfWord⟩ ⟨Nat.le_of_ble_eq_true rfl, Nat.le_of_ble_eq_true rfl⟩ ⟨rfl, rfl⟩ rfl (Nat.le_of_ble_eq_true rfl) ?_
  obtain ⟨r2, h2, h⟩ := bd_some h
  refine AR.callSN (pc := 9) (As := [.ref (b + 4), .int (r1.1)]) (st := []) dX4_ownOf_9 ⟨cd_X8_at, sm_X8_at, ini_X8⟩ mn_X4_85 (A8_at (b + 4) 15 (pp4 hb) (r1.1) (r1.2) _ h2) pd_X8_at ⟨Nat.le_of_ble_eq_true rfl, Nat.le_of_ble_eq_true rfl⟩ ⟨rfl, rfl⟩ rfl (Nat.le_of_ble_eq_true rfl) ?_
  exact AR.iret (pc := 12) rfl dX4_ownOf_12 (hrI (Option.some.inj h))
set_option maxHeartbeats 4000000 in
set_option maxRecDepth 100000 in
theorem A4_othersOf {l : Launch} (b : Nat) (hb : Ppl b) (x1 : Int32) (x2 : Int32) (σ : HS) (r : Int32 × HS) (h : f4_othersOf b x1 x2 σ = some r) : MA l yX4_othersOf (wsU yX4_othersOf cX4_othersOf 3 (some .int)) rm4_othersOf SC [.ref b, .int x1, .int x2] σ (some (.int r.1), r.2) := by
  refine MA.of (L := [(0, .ref b), (1, .int x1), (2, .int x2)]) pn_X4_othersOf rfl (fun _ => Nat.le_of_ble_eq_true rfl) (fun _ => rfl) ?_
  unfold f4_othersOf at h
  refine AR.aload_n (pc := 0) (j := 0) dX4_othersOf_0 rfl rfl ?_
  refine AR.getf (pc := 1) (ci := 4) (j := 7) (d := (b + 5) + 2) (v := .ref (b + 5)) (T := TX4) dX4_othersOf_1 (pp0 hb) rfl rfl (by decide) (fun w hw => wsU_in (uw_X4 w hw)) (wsU_in fl_X4_34) rfl ?_
  refine AR.iload_n (pc := 4) (j := 1) dX4_othersOf_4 rfl rfl ?_
  refine AR.iload_n (pc := 5) (j := 2) dX4_othersOf_5 rfl rfl ?_
  obtain ⟨r1, h1, h⟩ := bd_some h
  refine AR.callS (pc := 6) (As := [.int x1, .int x2]) (st := [.ref (b + 5)]) dX4_othersOf_6 ⟨cd_X4_placeOfWord, sm_X4_placeOfWord, ini_X4⟩ ml_X4_49 (A4_placeOfWord x1 x2 σ _ h1) ⟨rfl, pd_X4_placeOfWord⟩ ⟨Nat.le_of_ble_eq_true rfl, Nat.le_of_ble_eq_true rfl⟩ ⟨rfl, rfl⟩ rfl (Nat.le_of_ble_eq_true rfl) ?_
  obtain ⟨r2, h2, h⟩ := bd_some h
  refine AR.callSN (pc := 9) (As := [.ref (b + 5), .int (r1.1)]) (st := []) dX4_othersOf_9 ⟨cd_X8_at, sm_X8_at, ini_X8⟩ mn_X4_85 (A8_at (b + 5) 15 (pp5 hb) (r1.1) (r1.2) _ h2) pd_X8_at ⟨Nat.le_of_ble_eq_true rfl, Nat.le_of_ble_eq_true rfl⟩ ⟨rfl, rfl⟩ rfl (Nat.le_of_ble_eq_true rfl) ?_
  exact AR.iret (pc := 12) rfl dX4_othersOf_12 (hrI (Option.some.inj h))
set_option maxHeartbeats 4000000 in
set_option maxRecDepth 100000 in
theorem A4_gainOf_47 {l : Launch} (k5 : Int64 × Int32 × HS → Option (Int64 × HS)) (x1 : Int32) (x2 : Int32) (x3 : Int64) (x5 : Int32) (z0 : Int64) (hk5 : ∀ (p : Int64 × Int32 × HS) (r : Int64 × HS), k5 p = some r → AR l RX4 cX4_gainOf 8 (some .long) (wsU yX4_gainOf cX4_gainOf 8 (some .long)) rm4_gainOf SC 5 [(0, .ref 5), (1, .int x1), (2, .int x2), (3, .long (p.1)), (5, .int (p.2.1))] [] p.2.2 (some (.long r.1), r.2)) (σ : HS) (r : Int64 × HS) (h : f4_gainOf_47 k5 x1 x2 x3 x5 z0 σ = some r) : AR l RX4 cX4_gainOf 8 (some .long) (wsU yX4_gainOf cX4_gainOf 8 (some .long)) rm4_gainOf SC 47 [(0, .ref 5), (1, .int x1), (2, .int x2), (3, .long x3), (5, .int x5)] [.long z0] σ (some (.long r.1), r.2) := by
  unfold f4_gainOf_47 at h
  refine AR.lstore (pc := 47) (L2 := [(6, .long z0), (0, .ref 5), (1, .int x1), (2, .int x2), (3, .long x3), (5, .int x5)]) dX4_gainOf_47 (by decide) rfl ?_
  refine AR.lload_n (pc := 49) (j := 4) dX4_gainOf_49 rfl rfl ?_
  refine AR.lload (pc := 50) (j := 0) dX4_gainOf_50 rfl ?_
  refine AR.iload (pc := 52) (j := 5) dX4_gainOf_52 rfl ?_
  refine AR.bipush (pc := 54) (v := 8) dX4_gainOf_54 (by decide) ?_
  refine AR.imul (pc := 56) dX4_gainOf_56 ?_
  refine AR.lshl (pc := 57) dX4_gainOf_57 ?_
  refine AR.lor (pc := 58) dX4_gainOf_58 ?_
  refine AR.lstore_n (pc := 59) (L2 := [(3, .long (x3 ||| (z0 <<< (((x5 * 8) : Int32).toInt64 &&& 63)))), (6, .long z0), (0, .ref 5), (1, .int x1), (2, .int x2), (5, .int x5)]) dX4_gainOf_59 rfl (by decide) rfl ?_
  refine AR.iinc (pc := 60) (j := 5) (v := (x5 + 1)) (L2 := [(5, .int (x5 + 1)), (3, .long (x3 ||| (z0 <<< (((x5 * 8) : Int32).toInt64 &&& 63)))), (6, .long z0), (0, .ref 5), (1, .int x1), (2, .int x2)]) dX4_gainOf_60 rfl rfl (by decide) rfl ?_
  refine AR.goto (pc := 63) (tgt := 5) dX4_gainOf_63 (by decide) ?_
  exact AR.pick [3, 4, 5, 1, 0] rfl (hk5 ((x3 ||| (z0 <<< (((x5 * 8) : Int32).toInt64 &&& 63))), (x5 + 1), σ) r h)
set_option maxHeartbeats 4000000 in
set_option maxRecDepth 100000 in
theorem A4_gainOf_5_b {l : Launch} (k5 : Int64 × Int32 × HS → Option (Int64 × HS)) (x1 : Int32) (x2 : Int32) (x3 : Int64) (x5 : Int32) (hk5 : ∀ (p : Int64 × Int32 × HS) (r : Int64 × HS), k5 p = some r → AR l RX4 cX4_gainOf 8 (some .long) (wsU yX4_gainOf cX4_gainOf 8 (some .long)) rm4_gainOf SC 5 [(0, .ref 5), (1, .int x1), (2, .int x2), (3, .long (p.1)), (5, .int (p.2.1))] [] p.2.2 (some (.long r.1), r.2)) (σ : HS) (r : Int64 × HS) (h : f4_gainOf_5_b k5 x1 x2 x3 x5 σ = some r) : AR l RX4 cX4_gainOf 8 (some .long) (wsU yX4_gainOf cX4_gainOf 8 (some .long)) rm4_gainOf SC 5 [(0, .ref 5), (1, .int x1), (2, .int x2), (3, .long x3), (5, .int x5)] [] σ (some (.long r.1), r.2) := by
  unfold f4_gainOf_5_b at h
  refine AR.iload (pc := 5) (j := 4) dX4_gainOf_5 rfl ?_
  refine AR.aload_n (pc := 7) (j := 0) dX4_gainOf_7 rfl rfl ?_
  refine AR.getf (pc := 8) (ci := 4) (j := 0) (d := 0) (v := .int (σ.1 5 0)) (T := TX4) dX4_gainOf_8 rfl rfl rfl (by decide) (fun w hw => wsU_in (uw_X4 w hw)) (wsU_in fl_X4_9) rfl ?_
  refine AR.icmp_ge (pc := 11) (tgt := 66) dX4_gainOf_11 (by decide) (fun c1 => ?_) (fun c1 => ?_)
  · replace h := ite_t c1 h
    refine AR.lload_n (pc := 66) (j := 3) dX4_gainOf_66 rfl rfl ?_
    exact AR.lret (pc := 67) rfl dX4_gainOf_67 (hrL (Option.some.inj h))
  · replace h := ite_f c1 h
    refine AR.iload (pc := 14) (j := 4) dX4_gainOf_14 rfl ?_
    refine AR.iconst (pc := 16) (v := 5) dX4_gainOf_16 (by decide) ?_
    refine AR.icmp_ge (pc := 17) (tgt := 66) dX4_gainOf_17 (by decide) (fun c2 => ?_) (fun c2 => ?_)
    · replace h := ite_t c2 h
      refine AR.lload_n (pc := 66) (j := 3) dX4_gainOf_66 rfl rfl ?_
      exact AR.lret (pc := 67) rfl dX4_gainOf_67 (hrL (Option.some.inj h))
    · replace h := ite_f c2 h
      refine AR.iload (pc := 20) (j := 4) dX4_gainOf_20 rfl ?_
      refine AR.iload_n (pc := 22) (j := 1) dX4_gainOf_22 rfl rfl ?_
      refine AR.icmp_ne (pc := 23) (tgt := 38) dX4_gainOf_23 (by decide) (fun c3 => ?_) (fun c3 => ?_)
      · replace h := ite_f c3 h
        refine AR.aload_n (pc := 38) (j := 0) dX4_gainOf_38 rfl rfl ?_
        refine AR.getf (pc := 39) (ci := 4) (j := 7) (d := 10 + 2) (v := .ref 10) (T := TX4) dX4_gainOf_39 rfl rfl rfl (by decide) (fun w hw => wsU_in (uw_X4 w hw)) (wsU_in fl_X4_34) rfl ?_
        refine AR.iload_n (pc := 42) (j := 2) dX4_gainOf_42 rfl rfl ?_
        obtain ⟨r4, h4, h⟩ := bd_some h
        refine AR.callSN (pc := 43) (As := [.ref 10, .int x2]) (st := []) dX4_gainOf_43 ⟨cd_X8_at, sm_X8_at, ini_X8⟩ mn_X4_85 (A8_at 10 15 rfl x2 σ _ h4) pd_X8_at ⟨Nat.le_of_ble_eq_true rfl, Nat.le_of_ble_eq_true rfl⟩ ⟨rfl, rfl⟩ rfl (Nat.le_of_ble_eq_true rfl) ?_
        refine AR.i2l (pc := 46) dX4_gainOf_46 ?_
        exact AR.pick [0, 1, 2, 3, 4] rfl (A4_gainOf_47 k5 x1 x2 x3 x5 ((r4.1 : Int32).toInt64) hk5 (r4.2) r h)
      · replace h := ite_t c3 h
        refine AR.aload_n (pc := 26) (j := 0) dX4_gainOf_26 rfl rfl ?_
        refine AR.getf (pc := 27) (ci := 4) (j := 6) (d := 9 + 2) (v := .ref 9) (T := TX4) dX4_gainOf_27 rfl rfl rfl (by decide) (fun w hw => wsU_in (uw_X4 w hw)) (wsU_in fl_X4_31) rfl ?_
        refine AR.iload_n (pc := 30) (j := 2) dX4_gainOf_30 rfl rfl ?_
        obtain ⟨r5, h5, h⟩ := bd_some h
        refine AR.callSN (pc := 31) (As := [.ref 9, .int x2]) (st := []) dX4_gainOf_31 ⟨cd_X8_at, sm_X8_at, ini_X8⟩ mn_X4_85 (A8_at 9 15 rfl x2 σ _ h5) pd_X8_at ⟨Nat.le_of_ble_eq_true rfl, Nat.le_of_ble_eq_true rfl⟩ ⟨rfl, rfl⟩ rfl (Nat.le_of_ble_eq_true rfl) ?_
        refine AR.i2l (pc := 34) dX4_gainOf_34 ?_
        refine AR.goto (pc := 35) (tgt := 47) dX4_gainOf_35 (by decide) ?_
        exact AR.pick [0, 1, 2, 3, 4] rfl (A4_gainOf_47 k5 x1 x2 x3 x5 ((r5.1 : Int32).toInt64) hk5 (r5.2) r h)
theorem A4_gainOf_5 {l : Launch} (x1 : Int32) (x2 : Int32) (p : Int64 × Int32 × HS) (r : Int64 × HS) (h : f4_gainOf_5 x1 x2 p = some r) : AR l RX4 cX4_gainOf 8 (some .long) (wsU yX4_gainOf cX4_gainOf 8 (some .long)) rm4_gainOf SC 5 [(0, .ref 5), (1, .int x1), (2, .int x2), (3, .long (p.1)), (5, .int (p.2.1))] [] p.2.2 (some (.long r.1), r.2) := by
  unfold f4_gainOf_5 at h
  exact wloop_run (body := fun k5 p => f4_gainOf_5_b k5 x1 x2 p.1 p.2.1 p.2.2) (Q := fun p r => AR l RX4 cX4_gainOf 8 (some .long) (wsU yX4_gainOf cX4_gainOf 8 (some .long)) rm4_gainOf SC 5 [(0, .ref 5), (1, .int x1), (2, .int x2), (3, .long (p.1)), (5, .int (p.2.1))] [] p.2.2 (some (.long r.1), r.2)) (fun k5 hk5 p r h => A4_gainOf_5_b k5 x1 x2 p.1 p.2.1 hk5 p.2.2 r h) fuelN p r h
set_option maxHeartbeats 4000000 in
set_option maxRecDepth 100000 in
theorem A4_gainOf {l : Launch} (x1 : Int32) (x2 : Int32) (σ : HS) (r : Int64 × HS) (h : f4_gainOf x1 x2 σ = some r) : MA l yX4_gainOf (wsU yX4_gainOf cX4_gainOf 8 (some .long)) rm4_gainOf SC [.ref 5, .int x1, .int x2] σ (some (.long r.1), r.2) := by
  refine MA.of (L := [(0, .ref 5), (1, .int x1), (2, .int x2)]) pn_X4_gainOf rfl (fun _ => Nat.le_of_ble_eq_true rfl) (fun _ => rfl) ?_
  unfold f4_gainOf at h
  refine AR.lconst (pc := 0) (v := 0) dX4_gainOf_0 (by decide) ?_
  refine AR.lstore_n (pc := 1) (L2 := [(3, .long 0), (0, .ref 5), (1, .int x1), (2, .int x2)]) dX4_gainOf_1 rfl (by decide) rfl ?_
  refine AR.iconst (pc := 2) (v := 0) dX4_gainOf_2 (by decide) ?_
  refine AR.istore (pc := 3) (L2 := [(5, .int 0), (3, .long 0), (0, .ref 5), (1, .int x1), (2, .int x2)]) dX4_gainOf_3 (by decide) rfl ?_
  exact AR.pick [2, 3, 4, 1, 0] rfl (A4_gainOf_5 x1 x2 (0, 0, σ) r h)
set_option maxHeartbeats 4000000 in
set_option maxRecDepth 100000 in
theorem A4_become_88_b {l : Launch} (k88 : Int32 × HS → Option (HS)) (x2 : Int32) (hk88 : ∀ (p : Int32 × HS) (r : HS), k88 p = some r → AR l RX4 cX4_become 4 none (wsU yX4_become cX4_become 4 none) rm4_become SC 88 [(0, .ref 5), (2, .int (p.1))] [] p.2 (none, r)) (σ : HS) (r : HS) (h : f4_become_88_b k88 x2 σ = some r) : AR l RX4 cX4_become 4 none (wsU yX4_become cX4_become 4 none) rm4_become SC 88 [(0, .ref 5), (2, .int x2)] [] σ (none, r) := by
  unfold f4_become_88_b at h
  refine AR.iload_n (pc := 88) (j := 1) dX4_become_88 rfl rfl ?_
  refine AR.bipush (pc := 89) (v := 15) dX4_become_89 (by decide) ?_
  refine AR.icmp_ge (pc := 91) (tgt := 116) dX4_become_91 (by decide) (fun c1 => ?_) (fun c1 => ?_)
  · replace h := ite_t c1 h
    exact AR.vret (pc := 116) rfl dX4_become_116 (hrV (Option.some.inj h))
  · replace h := ite_f c1 h
    refine AR.aload_n (pc := 94) (j := 0) dX4_become_94 rfl rfl ?_
    refine AR.getf (pc := 95) (ci := 4) (j := 8) (d := 11 + 2) (v := .ref 11) (T := TX4) dX4_become_95 rfl rfl rfl (by decide) (fun w hw => wsU_in (uw_X4 w hw)) (wsU_in fl_X4_37) rfl ?_
    refine AR.iload_n (pc := 98) (j := 1) dX4_become_98 rfl rfl ?_
    refine AR.aload_n (pc := 99) (j := 0) dX4_become_99 rfl rfl ?_
    refine AR.iload_n (pc := 100) (j := 1) dX4_become_100 rfl rfl ?_
    refine AR.iconst (pc := 101) (v := 3) dX4_become_101 (by decide) ?_
    refine AR.idiv (pc := 102) dX4_become_102 (by decide) ?_
    refine AR.iload_n (pc := 103) (j := 1) dX4_become_103 rfl rfl ?_
    obtain ⟨r2, h2, h⟩ := bd_some h
    refine AR.callV (pc := 104) (As := [.int (x2 / 3), .int x2]) (st := [.int x2, .ref 11]) (ci := 4) dX4_become_104 ⟨cd_X4_gainOf, im_X4_gainOf, se_X4_gainOf, ini_X4⟩ ml_X4_77 (A4_gainOf (x2 / 3) x2 σ _ h2) ⟨rfl, pd_X4_gainOf⟩ ⟨Nat.le_of_ble_eq_true rfl, Nat.le_of_ble_eq_true rfl⟩ ⟨rfl, rfl⟩ rfl rfl rfl (Nat.le_of_ble_eq_true rfl) ?_
    obtain ⟨r3, h3, h⟩ := bd_some h
    refine AR.callSN (pc := 107) (As := [.ref 11, .int x2, .long (r2.1)]) (st := []) dX4_become_107 ⟨cd_X8_setLong, sm_X8_setLong, ini_X8⟩ mn_X4_81 (A8_setLong 11 15 rfl x2 (r2.1) (r2.2) _ h3) pd_X8_setLong ⟨Nat.le_of_ble_eq_true rfl, Nat.le_of_ble_eq_true rfl⟩ ⟨rfl, rfl⟩ rfl (Nat.le_of_ble_eq_true rfl) ?_
    refine AR.iinc (pc := 110) (j := 1) (v := (x2 + 1)) (L2 := [(2, .int (x2 + 1)), (0, .ref 5)]) dX4_become_110 rfl rfl (by decide) rfl ?_
    refine AR.goto (pc := 113) (tgt := 88) dX4_become_113 (by decide) ?_
    exact AR.pick [1, 0] rfl (hk88 ((x2 + 1), r3) r h)
theorem A4_become_88 {l : Launch} (p : Int32 × HS) (r : HS) (h : f4_become_88 p = some r) : AR l RX4 cX4_become 4 none (wsU yX4_become cX4_become 4 none) rm4_become SC 88 [(0, .ref 5), (2, .int (p.1))] [] p.2 (none, r) := by
  unfold f4_become_88 at h
  exact wloop_run (body := fun k88 p => f4_become_88_b k88 p.1 p.2) (Q := fun p r => AR l RX4 cX4_become 4 none (wsU yX4_become cX4_become 4 none) rm4_become SC 88 [(0, .ref 5), (2, .int (p.1))] [] p.2 (none, r)) (fun k88 hk88 p r h => A4_become_88_b k88 p.1 hk88 p.2 r h) fuelN p r h
set_option maxHeartbeats 4000000 in
set_option maxRecDepth 100000 in
theorem A4_become_86 {l : Launch} (σ : HS) (r : HS) (h : f4_become_86 σ = some r) : AR l RX4 cX4_become 4 none (wsU yX4_become cX4_become 4 none) rm4_become SC 86 [(0, .ref 5)] [] σ (none, r) := by
  unfold f4_become_86 at h
  refine AR.iconst (pc := 86) (v := 0) dX4_become_86 (by decide) ?_
  refine AR.istore_n (pc := 87) (L2 := [(2, .int 0), (0, .ref 5)]) dX4_become_87 rfl (by decide) rfl ?_
  exact AR.pick [1, 0] rfl (A4_become_88 (0, σ) r h)
set_option maxHeartbeats 4000000 in
set_option maxRecDepth 100000 in
theorem A4_become_80 {l : Launch} (k14 : Int32 × HS → Option (HS)) (x2 : Int32) (hk14 : ∀ (p : Int32 × HS) (r : HS), k14 p = some r → AR l RX4 cX4_become 4 none (wsU yX4_become cX4_become 4 none) rm4_become SC 14 [(0, .ref 5), (1, .ref 12), (2, .int (p.1))] [] p.2 (none, r)) (σ : HS) (r : HS) (h : f4_become_80 k14 x2 σ = some r) : AR l RX4 cX4_become 4 none (wsU yX4_become cX4_become 4 none) rm4_become SC 80 [(0, .ref 5), (1, .ref 12), (2, .int x2)] [] σ (none, r) := by
  unfold f4_become_80 at h
  refine AR.iinc (pc := 80) (j := 2) (v := (x2 + 1)) (L2 := [(2, .int (x2 + 1)), (0, .ref 5), (1, .ref 12)]) dX4_become_80 rfl rfl (by decide) rfl ?_
  refine AR.goto (pc := 83) (tgt := 14) dX4_become_83 (by decide) ?_
  exact AR.pick [1, 2, 0] rfl (hk14 ((x2 + 1), σ) r h)
set_option maxHeartbeats 4000000 in
set_option maxRecDepth 100000 in
theorem A4_become_38_b {l : Launch} (k14 : Int32 × HS → Option (HS)) (k38 : Int32 × HS → Option (HS)) (x2 : Int32) (x3 : Int32) (hk14 : ∀ (p : Int32 × HS) (r : HS), k14 p = some r → AR l RX4 cX4_become 4 none (wsU yX4_become cX4_become 4 none) rm4_become SC 14 [(0, .ref 5), (1, .ref 12), (2, .int (p.1))] [] p.2 (none, r)) (hk38 : ∀ (p : Int32 × HS) (r : HS), k38 p = some r → AR l RX4 cX4_become 4 none (wsU yX4_become cX4_become 4 none) rm4_become SC 38 [(0, .ref 5), (1, .ref 12), (2, .int x2), (3, .int (p.1))] [] p.2 (none, r)) (σ : HS) (r : HS) (h : f4_become_38_b k14 k38 x2 x3 σ = some r) : AR l RX4 cX4_become 4 none (wsU yX4_become cX4_become 4 none) rm4_become SC 38 [(0, .ref 5), (1, .ref 12), (2, .int x2), (3, .int x3)] [] σ (none, r) := by
  unfold f4_become_38_b at h
  refine AR.iload_n (pc := 38) (j := 3) dX4_become_38 rfl rfl ?_
  refine AR.aload_n (pc := 39) (j := 1) dX4_become_39 rfl rfl ?_
  refine AR.iload_n (pc := 40) (j := 2) dX4_become_40 rfl rfl ?_
  obtain ⟨r1, h1, h⟩ := bd_some h
  refine AR.callV (pc := 41) (As := [.int x2]) (st := [.int x3]) (ci := 4) dX4_become_41 ⟨cd_X4_wordsOf, im_X4_wordsOf, se_X4_wordsOf, ini_X4⟩ ml_X4_45 (A4_wordsOf 12 ppl12 x2 σ _ h1) ⟨rfl, pd_X4_wordsOf⟩ ⟨Nat.le_of_ble_eq_true rfl, Nat.le_of_ble_eq_true rfl⟩ ⟨rfl, rfl⟩ rfl rfl rfl (Nat.le_of_ble_eq_true rfl) ?_
  refine AR.icmp_ge (pc := 44) (tgt := 80) dX4_become_44 (by decide) (fun c2 => ?_) (fun c2 => ?_)
  · replace h := ite_t c2 h
    exact AR.pick [0, 1, 2] rfl (A4_become_80 k14 x2 hk14 (r1.2) r h)
  · replace h := ite_f c2 h
    refine AR.iload_n (pc := 47) (j := 3) dX4_become_47 rfl rfl ?_
    refine AR.iconst (pc := 48) (v := 3) dX4_become_48 (by decide) ?_
    refine AR.icmp_ge (pc := 49) (tgt := 80) dX4_become_49 (by decide) (fun c3 => ?_) (fun c3 => ?_)
    · replace h := ite_t c3 h
      exact AR.pick [0, 1, 2] rfl (A4_become_80 k14 x2 hk14 (r1.2) r h)
    · replace h := ite_f c3 h
      refine AR.aload_n (pc := 52) (j := 0) dX4_become_52 rfl rfl ?_
      refine AR.aload_n (pc := 53) (j := 1) dX4_become_53 rfl rfl ?_
      refine AR.iload_n (pc := 54) (j := 2) dX4_become_54 rfl rfl ?_
      refine AR.iload_n (pc := 55) (j := 3) dX4_become_55 rfl rfl ?_
      obtain ⟨r4, h4, h⟩ := bd_some h
      refine AR.callV (pc := 56) (As := [.int x2, .int x3]) (st := [.ref 5]) (ci := 4) dX4_become_56 ⟨cd_X4_lengthOf, im_X4_lengthOf, se_X4_lengthOf, ini_X4⟩ ml_X4_64 (A4_lengthOf 12 ppl12 x2 x3 (r1.2) _ h4) ⟨rfl, pd_X4_lengthOf⟩ ⟨Nat.le_of_ble_eq_true rfl, Nat.le_of_ble_eq_true rfl⟩ ⟨rfl, rfl⟩ rfl rfl rfl (Nat.le_of_ble_eq_true rfl) ?_
      refine AR.aload_n (pc := 59) (j := 1) dX4_become_59 rfl rfl ?_
      refine AR.iload_n (pc := 60) (j := 2) dX4_become_60 rfl rfl ?_
      refine AR.iload_n (pc := 61) (j := 3) dX4_become_61 rfl rfl ?_
      obtain ⟨r5, h5, h⟩ := bd_some h
      refine AR.callV (pc := 62) (As := [.int x2, .int x3]) (st := [.int (r4.1), .ref 5]) (ci := 4) dX4_become_62 ⟨cd_X4_ownOf, im_X4_ownOf, se_X4_ownOf, ini_X4⟩ ml_X4_67 (A4_ownOf 12 ppl12 x2 x3 (r4.2) _ h5) ⟨rfl, pd_X4_ownOf⟩ ⟨Nat.le_of_ble_eq_true rfl, Nat.le_of_ble_eq_true rfl⟩ ⟨rfl, rfl⟩ rfl rfl rfl (Nat.le_of_ble_eq_true rfl) ?_
      refine AR.aload_n (pc := 65) (j := 1) dX4_become_65 rfl rfl ?_
      refine AR.iload_n (pc := 66) (j := 2) dX4_become_66 rfl rfl ?_
      refine AR.iload_n (pc := 67) (j := 3) dX4_become_67 rfl rfl ?_
      obtain ⟨r6, h6, h⟩ := bd_some h
      refine AR.callV (pc := 68) (As := [.int x2, .int x3]) (st := [.int (r5.1), .int (r4.1), .ref 5]) (ci := 4) dX4_become_68 ⟨cd_X4_othersOf, im_X4_othersOf, se_X4_othersOf, ini_X4⟩ ml_X4_70 (A4_othersOf 12 ppl12 x2 x3 (r5.2) _ h6) ⟨rfl, pd_X4_othersOf⟩ ⟨Nat.le_of_ble_eq_true rfl, Nat.le_of_ble_eq_true rfl⟩ ⟨rfl, rfl⟩ rfl rfl rfl (Nat.le_of_ble_eq_true rfl) ?_
      obtain ⟨r7, h7, h⟩ := bd_some h
      refine AR.callV (pc := 71) (As := [.int (r4.1), .int (r5.1), .int (r6.1)]) (st := []) (ci := 4) dX4_become_71 ⟨cd_X4_addWord, im_X4_addWord, se_X4_addWord, ini_X4⟩ ml_X4_73 (A4_addWord 5 ppl5 (r4.1) (r5.1) (r6.1) (r6.2) _ h7) ⟨rfl, pd_X4_addWord⟩ ⟨Nat.le_of_ble_eq_true rfl, Nat.le_of_ble_eq_true rfl⟩ ⟨rfl, rfl⟩ rfl rfl rfl (Nat.le_of_ble_eq_true rfl) ?_
      refine AR.iinc (pc := 74) (j := 3) (v := (x3 + 1)) (L2 := [(3, .int (x3 + 1)), (0, .ref 5), (1, .ref 12), (2, .int x2)]) dX4_become_74 rfl rfl (by decide) rfl ?_
      refine AR.goto (pc := 77) (tgt := 38) dX4_become_77 (by decide) ?_
      exact AR.pick [1, 2, 3, 0] rfl (hk38 ((x3 + 1), r7) r h)
theorem A4_become_38 {l : Launch} (k14 : Int32 × HS → Option (HS)) (x2 : Int32) (hk14 : ∀ (p : Int32 × HS) (r : HS), k14 p = some r → AR l RX4 cX4_become 4 none (wsU yX4_become cX4_become 4 none) rm4_become SC 14 [(0, .ref 5), (1, .ref 12), (2, .int (p.1))] [] p.2 (none, r)) (p : Int32 × HS) (r : HS) (h : f4_become_38 k14 x2 p = some r) : AR l RX4 cX4_become 4 none (wsU yX4_become cX4_become 4 none) rm4_become SC 38 [(0, .ref 5), (1, .ref 12), (2, .int x2), (3, .int (p.1))] [] p.2 (none, r) := by
  unfold f4_become_38 at h
  exact wloop_run (body := fun k38 p => f4_become_38_b k14 k38 x2 p.1 p.2) (Q := fun p r => AR l RX4 cX4_become 4 none (wsU yX4_become cX4_become 4 none) rm4_become SC 38 [(0, .ref 5), (1, .ref 12), (2, .int x2), (3, .int (p.1))] [] p.2 (none, r)) (fun k38 hk38 p r h => A4_become_38_b k14 k38 x2 p.1 hk14 hk38 p.2 r h) fuelN p r h
set_option maxHeartbeats 4000000 in
set_option maxRecDepth 100000 in
theorem A4_become_14_b {l : Launch} (k14 : Int32 × HS → Option (HS)) (x2 : Int32) (hk14 : ∀ (p : Int32 × HS) (r : HS), k14 p = some r → AR l RX4 cX4_become 4 none (wsU yX4_become cX4_become 4 none) rm4_become SC 14 [(0, .ref 5), (1, .ref 12), (2, .int (p.1))] [] p.2 (none, r)) (σ : HS) (r : HS) (h : f4_become_14_b k14 x2 σ = some r) : AR l RX4 cX4_become 4 none (wsU yX4_become cX4_become 4 none) rm4_become SC 14 [(0, .ref 5), (1, .ref 12), (2, .int x2)] [] σ (none, r) := by
  unfold f4_become_14_b at h
  refine AR.iload_n (pc := 14) (j := 2) dX4_become_14 rfl rfl ?_
  refine AR.aload_n (pc := 15) (j := 1) dX4_become_15 rfl rfl ?_
  refine AR.getf (pc := 16) (ci := 4) (j := 0) (d := 0) (v := .int (σ.1 12 0)) (T := TX4) dX4_become_16 rfl rfl rfl (by decide) (fun w hw => wsU_in (uw_X4 w hw)) (wsU_in fl_X4_9) rfl ?_
  refine AR.icmp_ge (pc := 19) (tgt := 86) dX4_become_19 (by decide) (fun c1 => ?_) (fun c1 => ?_)
  · replace h := ite_t c1 h
    exact AR.pick [0] rfl (A4_become_86 σ r h)
  · replace h := ite_f c1 h
    refine AR.iload_n (pc := 22) (j := 2) dX4_become_22 rfl rfl ?_
    refine AR.iconst (pc := 23) (v := 5) dX4_become_23 (by decide) ?_
    refine AR.icmp_ge (pc := 24) (tgt := 86) dX4_become_24 (by decide) (fun c2 => ?_) (fun c2 => ?_)
    · replace h := ite_t c2 h
      exact AR.pick [0] rfl (A4_become_86 σ r h)
    · replace h := ite_f c2 h
      refine AR.aload_n (pc := 27) (j := 0) dX4_become_27 rfl rfl ?_
      refine AR.aload_n (pc := 28) (j := 1) dX4_become_28 rfl rfl ?_
      refine AR.iload_n (pc := 29) (j := 2) dX4_become_29 rfl rfl ?_
      obtain ⟨r3, h3, h⟩ := bd_some h
      refine AR.callV (pc := 30) (As := [.int x2]) (st := [.ref 5]) (ci := 4) dX4_become_30 ⟨cd_X4_kindOf, im_X4_kindOf, se_X4_kindOf, ini_X4⟩ ml_X4_57 (A4_kindOf 12 ppl12 x2 σ _ h3) ⟨rfl, pd_X4_kindOf⟩ ⟨Nat.le_of_ble_eq_true rfl, Nat.le_of_ble_eq_true rfl⟩ ⟨rfl, rfl⟩ rfl rfl rfl (Nat.le_of_ble_eq_true rfl) ?_
      obtain ⟨r4, h4, h⟩ := bd_some h
      refine AR.callV (pc := 33) (As := [.int (r3.1)]) (st := []) (ci := 4) dX4_become_33 ⟨cd_X4_addSpeaker, im_X4_addSpeaker, se_X4_addSpeaker, ini_X4⟩ ml_X4_60 (A4_addSpeaker 5 ppl5 (r3.1) (r3.2) _ h4) ⟨rfl, pd_X4_addSpeaker⟩ ⟨Nat.le_of_ble_eq_true rfl, Nat.le_of_ble_eq_true rfl⟩ ⟨rfl, rfl⟩ rfl rfl rfl (Nat.le_of_ble_eq_true rfl) ?_
      refine AR.iconst (pc := 36) (v := 0) dX4_become_36 (by decide) ?_
      refine AR.istore_n (pc := 37) (L2 := [(3, .int 0), (0, .ref 5), (1, .ref 12), (2, .int x2)]) dX4_become_37 rfl (by decide) rfl ?_
      exact AR.pick [1, 2, 3, 0] rfl (A4_become_38 k14 x2 hk14 (0, r4) r h)
theorem A4_become_14 {l : Launch} (p : Int32 × HS) (r : HS) (h : f4_become_14 p = some r) : AR l RX4 cX4_become 4 none (wsU yX4_become cX4_become 4 none) rm4_become SC 14 [(0, .ref 5), (1, .ref 12), (2, .int (p.1))] [] p.2 (none, r) := by
  unfold f4_become_14 at h
  exact wloop_run (body := fun k14 p => f4_become_14_b k14 p.1 p.2) (Q := fun p r => AR l RX4 cX4_become 4 none (wsU yX4_become cX4_become 4 none) rm4_become SC 14 [(0, .ref 5), (1, .ref 12), (2, .int (p.1))] [] p.2 (none, r)) (fun k14 hk14 p r h => A4_become_14_b k14 p.1 hk14 p.2 r h) fuelN p r h
set_option maxHeartbeats 4000000 in
set_option maxRecDepth 100000 in
theorem A4_become {l : Launch} (σ : HS) (r : HS) (h : f4_become σ = some r) : MA l yX4_become (wsU yX4_become cX4_become 4 none) rm4_become SC [.ref 5, .ref 12] σ (none, r) := by
  refine MA.of (L := [(0, .ref 5), (1, .ref 12)]) pn_X4_become rfl (fun _ => Nat.le_of_ble_eq_true rfl) (fun _ => rfl) ?_
  unfold f4_become at h
  refine AR.aload_n (pc := 0) (j := 0) dX4_become_0 rfl rfl ?_
  refine AR.aload_n (pc := 1) (j := 1) dX4_become_1 rfl rfl ?_
  refine AR.getf (pc := 2) (ci := 4) (j := 1) (d := 0) (v := .int (σ.1 12 1)) (T := TX4) dX4_become_2 rfl rfl rfl (by decide) (fun w hw => wsU_in (uw_X4 w hw)) (wsU_in fl_X4_15) rfl ?_
  refine AR.aload_n (pc := 5) (j := 1) dX4_become_5 rfl rfl ?_
  refine AR.getf (pc := 6) (ci := 4) (j := 2) (d := 0) (v := .int (σ.1 12 2)) (T := TX4) dX4_become_6 rfl rfl rfl (by decide) (fun w hw => wsU_in (uw_X4 w hw)) (wsU_in fl_X4_18) rfl ?_
  obtain ⟨r1, h1, h⟩ := bd_some h
  refine AR.callV (pc := 9) (As := [.int (σ.1 12 1), .int (σ.1 12 2)]) (st := []) (ci := 4) dX4_become_9 ⟨cd_X4_begin, im_X4_begin, se_X4_begin, ini_X4⟩ ml_X4_53 (A4_begin 5 ppl5 (σ.1 12 1) (σ.1 12 2) σ _ h1) ⟨rfl, pd_X4_begin⟩ ⟨Nat.le_of_ble_eq_true rfl, Nat.le_of_ble_eq_true rfl⟩ ⟨rfl, rfl⟩ rfl rfl rfl (Nat.le_of_ble_eq_true rfl) ?_
  refine AR.iconst (pc := 12) (v := 0) dX4_become_12 (by decide) ?_
  refine AR.istore_n (pc := 13) (L2 := [(2, .int 0), (0, .ref 5), (1, .ref 12)]) dX4_become_13 rfl (by decide) rfl ?_
  exact AR.pick [1, 2, 0] rfl (A4_become_14 (0, r1) r h)
set_option maxHeartbeats 4000000 in
set_option maxRecDepth 100000 in
theorem A4_has_16 {l : Launch} (σ : HS) (r : Int32 × HS) (h : f4_has_16 σ = some r) : AR l RX4 cX4_has 2 (some .boolean) (wsU yX4_has cX4_has 2 (some .boolean)) rm4_has SC 16 [] [] σ (some (.int r.1), r.2) := by
  unfold f4_has_16 at h
  refine AR.iconst (pc := 16) (v := 0) dX4_has_16 (by decide) ?_
  exact AR.zret (pc := 17) rfl (Or.inl rfl) dX4_has_17 (hrI (Option.some.inj h))
set_option maxHeartbeats 4000000 in
set_option maxRecDepth 100000 in
theorem A4_has {l : Launch} (x1 : Int32) (σ : HS) (r : Int32 × HS) (h : f4_has x1 σ = some r) : MA l yX4_has (wsU yX4_has cX4_has 2 (some .boolean)) rm4_has SC [.ref 5, .int x1] σ (some (.int r.1), r.2) := by
  refine MA.of (L := [(0, .ref 5), (1, .int x1)]) pn_X4_has rfl (fun _ => Nat.le_of_ble_eq_true rfl) (fun _ => rfl) ?_
  unfold f4_has at h
  refine AR.iload_n (pc := 0) (j := 1) dX4_has_0 rfl rfl ?_
  refine AR.if_lt (pc := 1) (tgt := 16) dX4_has_1 (by decide) (fun c1 => ?_) (fun c1 => ?_)
  · replace h := ite_t c1 h
    exact AR.pick [] rfl (A4_has_16 σ r h)
  · replace h := ite_f c1 h
    refine AR.iload_n (pc := 4) (j := 1) dX4_has_4 rfl rfl ?_
    refine AR.aload_n (pc := 5) (j := 0) dX4_has_5 rfl rfl ?_
    refine AR.getf (pc := 6) (ci := 4) (j := 0) (d := 0) (v := .int (σ.1 5 0)) (T := TX4) dX4_has_6 rfl rfl rfl (by decide) (fun w hw => wsU_in (uw_X4 w hw)) (wsU_in fl_X4_9) rfl ?_
    refine AR.icmp_ge (pc := 9) (tgt := 16) dX4_has_9 (by decide) (fun c2 => ?_) (fun c2 => ?_)
    · replace h := ite_t c2 h
      exact AR.pick [] rfl (A4_has_16 σ r h)
    · replace h := ite_f c2 h
      refine AR.iconst (pc := 12) (v := 1) dX4_has_12 (by decide) ?_
      refine AR.goto (pc := 13) (tgt := 17) dX4_has_13 (by decide) ?_
      exact AR.zret (pc := 17) rfl (Or.inr rfl) dX4_has_17 (hrI (Option.some.inj h))
set_option maxHeartbeats 4000000 in
set_option maxRecDepth 100000 in
theorem A4_hasWord_25 {l : Launch} (σ : HS) (r : Int32 × HS) (h : f4_hasWord_25 σ = some r) : AR l RX4 cX4_hasWord 3 (some .boolean) (wsU yX4_hasWord cX4_hasWord 3 (some .boolean)) rm4_hasWord SC 25 [] [] σ (some (.int r.1), r.2) := by
  unfold f4_hasWord_25 at h
  refine AR.iconst (pc := 25) (v := 0) dX4_hasWord_25 (by decide) ?_
  exact AR.zret (pc := 26) rfl (Or.inl rfl) dX4_hasWord_26 (hrI (Option.some.inj h))
set_option maxHeartbeats 4000000 in
set_option maxRecDepth 100000 in
theorem A4_hasWord {l : Launch} (x1 : Int32) (x2 : Int32) (σ : HS) (r : Int32 × HS) (h : f4_hasWord x1 x2 σ = some r) : MA l yX4_hasWord (wsU yX4_hasWord cX4_hasWord 3 (some .boolean)) rm4_hasWord SC [.ref 5, .int x1, .int x2] σ (some (.int r.1), r.2) := by
  refine MA.of (L := [(0, .ref 5), (1, .int x1), (2, .int x2)]) pn_X4_hasWord rfl (fun _ => Nat.le_of_ble_eq_true rfl) (fun _ => rfl) ?_
  unfold f4_hasWord at h
  refine AR.aload_n (pc := 0) (j := 0) dX4_hasWord_0 rfl rfl ?_
  refine AR.iload_n (pc := 1) (j := 1) dX4_hasWord_1 rfl rfl ?_
  obtain ⟨r1, h1, h⟩ := bd_some h
  refine AR.callV (pc := 2) (As := [.int x1]) (st := []) (ci := 4) dX4_hasWord_2 ⟨cd_X4_has, im_X4_has, se_X4_has, ini_X4⟩ ml_X4_89 (A4_has x1 σ _ h1) ⟨rfl, pd_X4_has⟩ ⟨Nat.le_of_ble_eq_true rfl, Nat.le_of_ble_eq_true rfl⟩ ⟨rfl, rfl⟩ rfl rfl rfl (Nat.le_of_ble_eq_true rfl) ?_
  refine AR.if_eq (pc := 5) (tgt := 25) dX4_hasWord_5 (by decide) (fun c2 => ?_) (fun c2 => ?_)
  · replace h := ite_t c2 h
    exact AR.pick [] rfl (A4_hasWord_25 (r1.2) r h)
  · replace h := ite_f c2 h
    refine AR.iload_n (pc := 8) (j := 2) dX4_hasWord_8 rfl rfl ?_
    refine AR.if_lt (pc := 9) (tgt := 25) dX4_hasWord_9 (by decide) (fun c3 => ?_) (fun c3 => ?_)
    · replace h := ite_t c3 h
      exact AR.pick [] rfl (A4_hasWord_25 (r1.2) r h)
    · replace h := ite_f c3 h
      refine AR.iload_n (pc := 12) (j := 2) dX4_hasWord_12 rfl rfl ?_
      refine AR.aload_n (pc := 13) (j := 0) dX4_hasWord_13 rfl rfl ?_
      refine AR.iload_n (pc := 14) (j := 1) dX4_hasWord_14 rfl rfl ?_
      obtain ⟨r4, h4, h⟩ := bd_some h
      refine AR.callV (pc := 15) (As := [.int x1]) (st := [.int x2]) (ci := 4) dX4_hasWord_15 ⟨cd_X4_wordsOf, im_X4_wordsOf, se_X4_wordsOf, ini_X4⟩ ml_X4_45 (A4_wordsOf 5 ppl5 x1 (r1.2) _ h4) ⟨rfl, pd_X4_wordsOf⟩ ⟨Nat.le_of_ble_eq_true rfl, Nat.le_of_ble_eq_true rfl⟩ ⟨rfl, rfl⟩ rfl rfl rfl (Nat.le_of_ble_eq_true rfl) ?_
      refine AR.icmp_ge (pc := 18) (tgt := 25) dX4_hasWord_18 (by decide) (fun c5 => ?_) (fun c5 => ?_)
      · replace h := ite_t c5 h
        exact AR.pick [] rfl (A4_hasWord_25 (r4.2) r h)
      · replace h := ite_f c5 h
        refine AR.iconst (pc := 21) (v := 1) dX4_hasWord_21 (by decide) ?_
        refine AR.goto (pc := 22) (tgt := 26) dX4_hasWord_22 (by decide) ?_
        exact AR.zret (pc := 26) rfl (Or.inr rfl) dX4_hasWord_26 (hrI (Option.some.inj h))
set_option maxHeartbeats 4000000 in
set_option maxRecDepth 100000 in
theorem A4_longestWithin_54 {l : Launch} (k9 : Int32 × Int32 × Int32 × HS → Option (Int32 × HS)) (x1 : Int32) (x2 : Int32) (x3 : Int32) (x4 : Int32) (x5 : Int32) (hk9 : ∀ (p : Int32 × Int32 × Int32 × HS) (r : Int32 × HS), k9 p = some r → AR l RX4 cX4_longestWithin 7 (some .int) (wsU yX4_longestWithin cX4_longestWithin 7 (some .int)) rm4_longestWithin SC 9 [(0, .ref 5), (1, .int x1), (2, .int x2), (3, .int (p.1)), (4, .int (p.2.1)), (5, .int (p.2.2.1))] [] p.2.2.2 (some (.int r.1), r.2)) (σ : HS) (r : Int32 × HS) (h : f4_longestWithin_54 k9 x1 x2 x3 x4 x5 σ = some r) : AR l RX4 cX4_longestWithin 7 (some .int) (wsU yX4_longestWithin cX4_longestWithin 7 (some .int)) rm4_longestWithin SC 54 [(0, .ref 5), (1, .int x1), (2, .int x2), (3, .int x3), (4, .int x4), (5, .int x5)] [] σ (some (.int r.1), r.2) := by
  unfold f4_longestWithin_54 at h
  refine AR.iinc (pc := 54) (j := 5) (v := (x5 + 1)) (L2 := [(5, .int (x5 + 1)), (0, .ref 5), (1, .int x1), (2, .int x2), (3, .int x3), (4, .int x4)]) dX4_longestWithin_54 rfl rfl (by decide) rfl ?_
  refine AR.goto (pc := 57) (tgt := 9) dX4_longestWithin_57 (by decide) ?_
  exact AR.pick [1, 2, 3, 4, 5, 0] rfl (hk9 (x3, x4, (x5 + 1), σ) r h)
set_option maxHeartbeats 4000000 in
set_option maxRecDepth 100000 in
theorem A4_longestWithin_9_b {l : Launch} (k9 : Int32 × Int32 × Int32 × HS → Option (Int32 × HS)) (x1 : Int32) (x2 : Int32) (x3 : Int32) (x4 : Int32) (x5 : Int32) (hk9 : ∀ (p : Int32 × Int32 × Int32 × HS) (r : Int32 × HS), k9 p = some r → AR l RX4 cX4_longestWithin 7 (some .int) (wsU yX4_longestWithin cX4_longestWithin 7 (some .int)) rm4_longestWithin SC 9 [(0, .ref 5), (1, .int x1), (2, .int x2), (3, .int (p.1)), (4, .int (p.2.1)), (5, .int (p.2.2.1))] [] p.2.2.2 (some (.int r.1), r.2)) (σ : HS) (r : Int32 × HS) (h : f4_longestWithin_9_b k9 x1 x2 x3 x4 x5 σ = some r) : AR l RX4 cX4_longestWithin 7 (some .int) (wsU yX4_longestWithin cX4_longestWithin 7 (some .int)) rm4_longestWithin SC 9 [(0, .ref 5), (1, .int x1), (2, .int x2), (3, .int x3), (4, .int x4), (5, .int x5)] [] σ (some (.int r.1), r.2) := by
  unfold f4_longestWithin_9_b at h
  refine AR.iload (pc := 9) (j := 5) dX4_longestWithin_9 rfl ?_
  refine AR.aload_n (pc := 11) (j := 0) dX4_longestWithin_11 rfl rfl ?_
  refine AR.iload_n (pc := 12) (j := 1) dX4_longestWithin_12 rfl rfl ?_
  obtain ⟨r1, h1, h⟩ := bd_some h
  refine AR.callV (pc := 13) (As := [.int x1]) (st := [.int x5]) (ci := 4) dX4_longestWithin_13 ⟨cd_X4_wordsOf, im_X4_wordsOf, se_X4_wordsOf, ini_X4⟩ ml_X4_45 (A4_wordsOf 5 ppl5 x1 σ _ h1) ⟨rfl, pd_X4_wordsOf⟩ ⟨Nat.le_of_ble_eq_true rfl, Nat.le_of_ble_eq_true rfl⟩ ⟨rfl, rfl⟩ rfl rfl rfl (Nat.le_of_ble_eq_true rfl) ?_
  refine AR.icmp_ge (pc := 16) (tgt := 60) dX4_longestWithin_16 (by decide) (fun c2 => ?_) (fun c2 => ?_)
  · replace h := ite_t c2 h
    refine AR.iload_n (pc := 60) (j := 3) dX4_longestWithin_60 rfl rfl ?_
    exact AR.iret (pc := 61) rfl dX4_longestWithin_61 (hrI (Option.some.inj h))
  · replace h := ite_f c2 h
    refine AR.iload (pc := 19) (j := 5) dX4_longestWithin_19 rfl ?_
    refine AR.iconst (pc := 21) (v := 3) dX4_longestWithin_21 (by decide) ?_
    refine AR.icmp_ge (pc := 22) (tgt := 60) dX4_longestWithin_22 (by decide) (fun c3 => ?_) (fun c3 => ?_)
    · replace h := ite_t c3 h
      refine AR.iload_n (pc := 60) (j := 3) dX4_longestWithin_60 rfl rfl ?_
      exact AR.iret (pc := 61) rfl dX4_longestWithin_61 (hrI (Option.some.inj h))
    · replace h := ite_f c3 h
      refine AR.aload_n (pc := 25) (j := 0) dX4_longestWithin_25 rfl rfl ?_
      refine AR.iload_n (pc := 26) (j := 1) dX4_longestWithin_26 rfl rfl ?_
      refine AR.iload (pc := 27) (j := 5) dX4_longestWithin_27 rfl ?_
      obtain ⟨r4, h4, h⟩ := bd_some h
      refine AR.callV (pc := 29) (As := [.int x1, .int x5]) (st := []) (ci := 4) dX4_longestWithin_29 ⟨cd_X4_lengthOf, im_X4_lengthOf, se_X4_lengthOf, ini_X4⟩ ml_X4_64 (A4_lengthOf 5 ppl5 x1 x5 (r1.2) _ h4) ⟨rfl, pd_X4_lengthOf⟩ ⟨Nat.le_of_ble_eq_true rfl, Nat.le_of_ble_eq_true rfl⟩ ⟨rfl, rfl⟩ rfl rfl rfl (Nat.le_of_ble_eq_true rfl) ?_
      refine AR.istore (pc := 32) (L2 := [(6, .int (r4.1)), (0, .ref 5), (1, .int x1), (2, .int x2), (3, .int x3), (4, .int x4), (5, .int x5)]) dX4_longestWithin_32 (by decide) rfl ?_
      refine AR.iload (pc := 34) (j := 0) dX4_longestWithin_34 rfl ?_
      refine AR.iload_n (pc := 36) (j := 3) dX4_longestWithin_36 rfl rfl ?_
      refine AR.icmp_gt (pc := 37) (tgt := 54) dX4_longestWithin_37 (by decide) (fun c5 => ?_) (fun c5 => ?_)
      · replace h := ite_t c5 h
        exact AR.pick [1, 2, 3, 4, 5, 6] rfl (A4_longestWithin_54 k9 x1 x2 x3 x4 x5 hk9 (r4.2) r h)
      · replace h := ite_f c5 h
        refine AR.iload (pc := 40) (j := 0) dX4_longestWithin_40 rfl ?_
        refine AR.iload (pc := 42) (j := 5) dX4_longestWithin_42 rfl ?_
        refine AR.icmp_le (pc := 44) (tgt := 54) dX4_longestWithin_44 (by decide) (fun c6 => ?_) (fun c6 => ?_)
        · replace h := ite_t c6 h
          exact AR.pick [1, 2, 3, 4, 5, 6] rfl (A4_longestWithin_54 k9 x1 x2 x3 x4 x5 hk9 (r4.2) r h)
        · replace h := ite_f c6 h
          refine AR.iload (pc := 47) (j := 0) dX4_longestWithin_47 rfl ?_
          refine AR.istore (pc := 49) (L2 := [(4, .int (r4.1)), (6, .int (r4.1)), (0, .ref 5), (1, .int x1), (2, .int x2), (3, .int x3), (5, .int x5)]) dX4_longestWithin_49 (by decide) rfl ?_
          refine AR.iload (pc := 51) (j := 6) dX4_longestWithin_51 rfl ?_
          refine AR.istore_n (pc := 53) (L2 := [(3, .int x5), (4, .int (r4.1)), (6, .int (r4.1)), (0, .ref 5), (1, .int x1), (2, .int x2), (5, .int x5)]) dX4_longestWithin_53 rfl (by decide) rfl ?_
          exact AR.pick [3, 4, 5, 0, 1, 6] rfl (A4_longestWithin_54 k9 x1 x2 x5 (r4.1) x5 hk9 (r4.2) r h)
theorem A4_longestWithin_9 {l : Launch} (x1 : Int32) (x2 : Int32) (p : Int32 × Int32 × Int32 × HS) (r : Int32 × HS) (h : f4_longestWithin_9 x1 x2 p = some r) : AR l RX4 cX4_longestWithin 7 (some .int) (wsU yX4_longestWithin cX4_longestWithin 7 (some .int)) rm4_longestWithin SC 9 [(0, .ref 5), (1, .int x1), (2, .int x2), (3, .int (p.1)), (4, .int (p.2.1)), (5, .int (p.2.2.1))] [] p.2.2.2 (some (.int r.1), r.2) := by
  unfold f4_longestWithin_9 at h
  exact wloop_run (body := fun k9 p => f4_longestWithin_9_b k9 x1 x2 p.1 p.2.1 p.2.2.1 p.2.2.2) (Q := fun p r => AR l RX4 cX4_longestWithin 7 (some .int) (wsU yX4_longestWithin cX4_longestWithin 7 (some .int)) rm4_longestWithin SC 9 [(0, .ref 5), (1, .int x1), (2, .int x2), (3, .int (p.1)), (4, .int (p.2.1)), (5, .int (p.2.2.1))] [] p.2.2.2 (some (.int r.1), r.2)) (fun k9 hk9 p r h => A4_longestWithin_9_b k9 x1 x2 p.1 p.2.1 p.2.2.1 hk9 p.2.2.2 r h) fuelN p r h
set_option maxHeartbeats 4000000 in
set_option maxRecDepth 100000 in
theorem A4_longestWithin {l : Launch} (x1 : Int32) (x2 : Int32) (σ : HS) (r : Int32 × HS) (h : f4_longestWithin x1 x2 σ = some r) : MA l yX4_longestWithin (wsU yX4_longestWithin cX4_longestWithin 7 (some .int)) rm4_longestWithin SC [.ref 5, .int x1, .int x2] σ (some (.int r.1), r.2) := by
  refine MA.of (L := [(0, .ref 5), (1, .int x1), (2, .int x2)]) pn_X4_longestWithin rfl (fun _ => Nat.le_of_ble_eq_true rfl) (fun _ => rfl) ?_
  unfold f4_longestWithin at h
  refine AR.bipush (pc := 0) (v := (-9)) dX4_longestWithin_0 (by decide) ?_
  refine AR.istore_n (pc := 2) (L2 := [(3, .int (-9)), (0, .ref 5), (1, .int x1), (2, .int x2)]) dX4_longestWithin_2 rfl (by decide) rfl ?_
  refine AR.iconst (pc := 3) (v := 0) dX4_longestWithin_3 (by decide) ?_
  refine AR.istore (pc := 4) (L2 := [(4, .int 0), (3, .int (-9)), (0, .ref 5), (1, .int x1), (2, .int x2)]) dX4_longestWithin_4 (by decide) rfl ?_
  refine AR.iconst (pc := 6) (v := 0) dX4_longestWithin_6 (by decide) ?_
  refine AR.istore (pc := 7) (L2 := [(5, .int 0), (4, .int 0), (3, .int (-9)), (0, .ref 5), (1, .int x1), (2, .int x2)]) dX4_longestWithin_7 (by decide) rfl ?_
  exact AR.pick [3, 4, 5, 2, 1, 0] rfl (A4_longestWithin_9 x1 x2 ((-9), 0, 0, σ) r h)
set_option maxHeartbeats 4000000 in
set_option maxRecDepth 100000 in
theorem A5_makeForEach_57 {l : Launch} (σ : HS) (r : HS) (h : f5_makeForEach_57 σ = some r) : AR l RX5 cX5_makeForEach 3 none (wsU yX5_makeForEach cX5_makeForEach 3 none) rm5_makeForEach SC 57 [(0, .ref 22)] [] σ (none, r) := by
  unfold f5_makeForEach_57 at h
  refine AR.aload_n (pc := 57) (j := 0) dX5_makeForEach_57 rfl rfl ?_
  refine AR.iconst (pc := 58) (v := 0) dX5_makeForEach_58 (by decide) ?_
  obtain ⟨r1, h1, h⟩ := bd_some h
  refine AR.callV (pc := 59) (As := [.int 0]) (st := []) (ci := 5) dX5_makeForEach_59 ⟨cd_X5_settleAll, im_X5_settleAll, se_X5_settleAll, ini_X5⟩ ml_X5_58 (A5_settleAll 20 grp20 0 σ _ h1) ⟨rfl, pd_X5_settleAll⟩ ⟨Nat.le_of_ble_eq_true rfl, Nat.le_of_ble_eq_true rfl⟩ ⟨rfl, rfl⟩ rfl rfl rfl (Nat.le_of_ble_eq_true rfl) ?_
  exact AR.vret (pc := 62) rfl dX5_makeForEach_62 (hrV (Option.some.inj h))
set_option maxHeartbeats 4000000 in
set_option maxRecDepth 100000 in
theorem A5_makeForEach_51 {l : Launch} (k6 : Int32 × HS → Option (HS)) (x1 : Int32) (hk6 : ∀ (p : Int32 × HS) (r : HS), k6 p = some r → AR l RX5 cX5_makeForEach 3 none (wsU yX5_makeForEach cX5_makeForEach 3 none) rm5_makeForEach SC 6 [(0, .ref 22), (1, .int (p.1))] [] p.2 (none, r)) (σ : HS) (r : HS) (h : f5_makeForEach_51 k6 x1 σ = some r) : AR l RX5 cX5_makeForEach 3 none (wsU yX5_makeForEach cX5_makeForEach 3 none) rm5_makeForEach SC 51 [(0, .ref 22), (1, .int x1)] [] σ (none, r) := by
  unfold f5_makeForEach_51 at h
  refine AR.iinc (pc := 51) (j := 1) (v := (x1 + 1)) (L2 := [(1, .int (x1 + 1)), (0, .ref 22)]) dX5_makeForEach_51 rfl rfl (by decide) rfl ?_
  refine AR.goto (pc := 54) (tgt := 6) dX5_makeForEach_54 (by decide) ?_
  exact AR.pick [1, 0] rfl (hk6 ((x1 + 1), σ) r h)
set_option maxHeartbeats 4000000 in
set_option maxRecDepth 100000 in
theorem A5_makeForEach_22_b {l : Launch} (k6 : Int32 × HS → Option (HS)) (k22 : Int32 × HS → Option (HS)) (x1 : Int32) (x2 : Int32) (hk6 : ∀ (p : Int32 × HS) (r : HS), k6 p = some r → AR l RX5 cX5_makeForEach 3 none (wsU yX5_makeForEach cX5_makeForEach 3 none) rm5_makeForEach SC 6 [(0, .ref 22), (1, .int (p.1))] [] p.2 (none, r)) (hk22 : ∀ (p : Int32 × HS) (r : HS), k22 p = some r → AR l RX5 cX5_makeForEach 3 none (wsU yX5_makeForEach cX5_makeForEach 3 none) rm5_makeForEach SC 22 [(0, .ref 22), (1, .int x1), (2, .int (p.1))] [] p.2 (none, r)) (σ : HS) (r : HS) (h : f5_makeForEach_22_b k6 k22 x1 x2 σ = some r) : AR l RX5 cX5_makeForEach 3 none (wsU yX5_makeForEach cX5_makeForEach 3 none) rm5_makeForEach SC 22 [(0, .ref 22), (1, .int x1), (2, .int x2)] [] σ (none, r) := by
  unfold f5_makeForEach_22_b at h
  refine AR.iload_n (pc := 22) (j := 2) dX5_makeForEach_22 rfl rfl ?_
  refine AR.aload_n (pc := 23) (j := 0) dX5_makeForEach_23 rfl rfl ?_
  refine AR.getf (pc := 24) (ci := 5) (j := 1) (d := 5 + 2) (v := .ref 5) (T := TX5) dX5_makeForEach_24 rfl rfl rfl (by decide) (fun w hw => wsU_in (uw_X5 w hw)) (wsU_in fl_X5_45) rfl ?_
  refine AR.getfN (pc := 27) (ci := 4) (j := 1) (d := 0) (v := .int (σ.1 5 1)) (T := TX4) dX5_makeForEach_27 rfl rfl rfl (by decide) (fun w hw => wsU_in (uw_X4 w hw)) fn_X5_49 rfl ?_
  refine AR.icmp_gt (pc := 30) (tgt := 51) dX5_makeForEach_30 (by decide) (fun c1 => ?_) (fun c1 => ?_)
  · replace h := ite_t c1 h
    exact AR.pick [0, 1] rfl (A5_makeForEach_51 k6 x1 hk6 σ r h)
  · replace h := ite_f c1 h
    refine AR.iload_n (pc := 33) (j := 2) dX5_makeForEach_33 rfl rfl ?_
    refine AR.bipush (pc := 34) (v := 100) dX5_makeForEach_34 (by decide) ?_
    refine AR.icmp_ge (pc := 36) (tgt := 51) dX5_makeForEach_36 (by decide) (fun c2 => ?_) (fun c2 => ?_)
    · replace h := ite_t c2 h
      exact AR.pick [0, 1] rfl (A5_makeForEach_51 k6 x1 hk6 σ r h)
    · replace h := ite_f c2 h
      refine AR.aload_n (pc := 39) (j := 0) dX5_makeForEach_39 rfl rfl ?_
      refine AR.iload_n (pc := 40) (j := 1) dX5_makeForEach_40 rfl rfl ?_
      refine AR.iload_n (pc := 41) (j := 2) dX5_makeForEach_41 rfl rfl ?_
      obtain ⟨r3, h3, h⟩ := bd_some h
      refine AR.callV (pc := 42) (As := [.int x1, .int x2]) (st := []) (ci := 5) dX5_makeForEach_42 ⟨cd_X5_openState, im_X5_openState, se_X5_openState, ini_X5⟩ ml_X5_54 (A5_openState 20 grp20 x1 x2 σ _ h3) ⟨rfl, pd_X5_openState⟩ ⟨Nat.le_of_ble_eq_true rfl, Nat.le_of_ble_eq_true rfl⟩ ⟨rfl, rfl⟩ rfl rfl rfl (Nat.le_of_ble_eq_true rfl) ?_
      refine AR.iinc (pc := 45) (j := 2) (v := (x2 + 1)) (L2 := [(2, .int (x2 + 1)), (0, .ref 22), (1, .int x1)]) dX5_makeForEach_45 rfl rfl (by decide) rfl ?_
      refine AR.goto (pc := 48) (tgt := 22) dX5_makeForEach_48 (by decide) ?_
      exact AR.pick [1, 2, 0] rfl (hk22 ((x2 + 1), r3) r h)
theorem A5_makeForEach_22 {l : Launch} (k6 : Int32 × HS → Option (HS)) (x1 : Int32) (hk6 : ∀ (p : Int32 × HS) (r : HS), k6 p = some r → AR l RX5 cX5_makeForEach 3 none (wsU yX5_makeForEach cX5_makeForEach 3 none) rm5_makeForEach SC 6 [(0, .ref 22), (1, .int (p.1))] [] p.2 (none, r)) (p : Int32 × HS) (r : HS) (h : f5_makeForEach_22 k6 x1 p = some r) : AR l RX5 cX5_makeForEach 3 none (wsU yX5_makeForEach cX5_makeForEach 3 none) rm5_makeForEach SC 22 [(0, .ref 22), (1, .int x1), (2, .int (p.1))] [] p.2 (none, r) := by
  unfold f5_makeForEach_22 at h
  exact wloop_run (body := fun k22 p => f5_makeForEach_22_b k6 k22 x1 p.1 p.2) (Q := fun p r => AR l RX5 cX5_makeForEach 3 none (wsU yX5_makeForEach cX5_makeForEach 3 none) rm5_makeForEach SC 22 [(0, .ref 22), (1, .int x1), (2, .int (p.1))] [] p.2 (none, r)) (fun k22 hk22 p r h => A5_makeForEach_22_b k6 k22 x1 p.1 hk6 hk22 p.2 r h) fuelN p r h
set_option maxHeartbeats 4000000 in
set_option maxRecDepth 100000 in
theorem A5_makeForEach_6_b {l : Launch} (k6 : Int32 × HS → Option (HS)) (x1 : Int32) (hk6 : ∀ (p : Int32 × HS) (r : HS), k6 p = some r → AR l RX5 cX5_makeForEach 3 none (wsU yX5_makeForEach cX5_makeForEach 3 none) rm5_makeForEach SC 6 [(0, .ref 22), (1, .int (p.1))] [] p.2 (none, r)) (σ : HS) (r : HS) (h : f5_makeForEach_6_b k6 x1 σ = some r) : AR l RX5 cX5_makeForEach 3 none (wsU yX5_makeForEach cX5_makeForEach 3 none) rm5_makeForEach SC 6 [(0, .ref 22), (1, .int x1)] [] σ (none, r) := by
  unfold f5_makeForEach_6_b at h
  refine AR.iload_n (pc := 6) (j := 1) dX5_makeForEach_6 rfl rfl ?_
  refine AR.aload_n (pc := 7) (j := 0) dX5_makeForEach_7 rfl rfl ?_
  refine AR.getf (pc := 8) (ci := 5) (j := 8) (d := 0) (v := .int (σ.1 22 8)) (T := TX5) dX5_makeForEach_8 rfl rfl rfl (by decide) (fun w hw => wsU_in (uw_X5 w hw)) (wsU_in fl_X5_32) rfl ?_
  refine AR.icmp_ge (pc := 11) (tgt := 57) dX5_makeForEach_11 (by decide) (fun c1 => ?_) (fun c1 => ?_)
  · replace h := ite_t c1 h
    exact AR.pick [0] rfl (A5_makeForEach_57 σ r h)
  · replace h := ite_f c1 h
    refine AR.iload_n (pc := 14) (j := 1) dX5_makeForEach_14 rfl rfl ?_
    refine AR.bipush (pc := 15) (v := 6) dX5_makeForEach_15 (by decide) ?_
    refine AR.icmp_ge (pc := 17) (tgt := 57) dX5_makeForEach_17 (by decide) (fun c2 => ?_) (fun c2 => ?_)
    · replace h := ite_t c2 h
      exact AR.pick [0] rfl (A5_makeForEach_57 σ r h)
    · replace h := ite_f c2 h
      refine AR.iconst (pc := 20) (v := 0) dX5_makeForEach_20 (by decide) ?_
      refine AR.istore_n (pc := 21) (L2 := [(2, .int 0), (0, .ref 22), (1, .int x1)]) dX5_makeForEach_21 rfl (by decide) rfl ?_
      exact AR.pick [1, 2, 0] rfl (A5_makeForEach_22 k6 x1 hk6 (0, σ) r h)
theorem A5_makeForEach_6 {l : Launch} (p : Int32 × HS) (r : HS) (h : f5_makeForEach_6 p = some r) : AR l RX5 cX5_makeForEach 3 none (wsU yX5_makeForEach cX5_makeForEach 3 none) rm5_makeForEach SC 6 [(0, .ref 22), (1, .int (p.1))] [] p.2 (none, r) := by
  unfold f5_makeForEach_6 at h
  exact wloop_run (body := fun k6 p => f5_makeForEach_6_b k6 p.1 p.2) (Q := fun p r => AR l RX5 cX5_makeForEach 3 none (wsU yX5_makeForEach cX5_makeForEach 3 none) rm5_makeForEach SC 6 [(0, .ref 22), (1, .int (p.1))] [] p.2 (none, r)) (fun k6 hk6 p r h => A5_makeForEach_6_b k6 p.1 hk6 p.2 r h) fuelN p r h
set_option maxHeartbeats 4000000 in
set_option maxRecDepth 100000 in
theorem A5_makeForEach {l : Launch} (σ : HS) (r : HS) (h : f5_makeForEach σ = some r) : MA l yX5_makeForEach (wsU yX5_makeForEach cX5_makeForEach 3 none) rm5_makeForEach SC [.ref 22] σ (none, r) := by
  refine MA.of (L := [(0, .ref 22)]) pn_X5_makeForEach rfl (fun _ => Nat.le_of_ble_eq_true rfl) (fun _ => rfl) ?_
  unfold f5_makeForEach at h
  refine AR.aload_n (pc := 0) (j := 0) dX5_makeForEach_0 rfl rfl ?_
  obtain ⟨r1, h1, h⟩ := bd_some h
  refine AR.callV (pc := 1) (As := []) (st := []) (ci := 5) dX5_makeForEach_1 ⟨cd_X5_beginMaking, im_X5_beginMaking, se_X5_beginMaking, ini_X5⟩ ml_X5_46 (A5_beginMaking 20 grp20 σ _ h1) ⟨rfl, pd_X5_beginMaking⟩ ⟨Nat.le_of_ble_eq_true rfl, Nat.le_of_ble_eq_true rfl⟩ ⟨rfl, rfl⟩ rfl rfl rfl (Nat.le_of_ble_eq_true rfl) ?_
  refine AR.iconst (pc := 4) (v := 0) dX5_makeForEach_4 (by decide) ?_
  refine AR.istore_n (pc := 5) (L2 := [(1, .int 0), (0, .ref 22)]) dX5_makeForEach_5 rfl (by decide) rfl ?_
  exact AR.pick [1, 0] rfl (A5_makeForEach_6 (0, r1) r h)
set_option maxHeartbeats 4000000 in
set_option maxRecDepth 100000 in
theorem A5_makeForAll {l : Launch} (σ : HS) (r : HS) (h : f5_makeForAll σ = some r) : MA l yX5_makeForAll (wsU yX5_makeForAll cX5_makeForAll 1 none) rm5_makeForAll SC [.ref 32] σ (none, r) := by
  refine MA.of (L := [(0, .ref 32)]) pn_X5_makeForAll rfl (fun _ => Nat.le_of_ble_eq_true rfl) (fun _ => rfl) ?_
  unfold f5_makeForAll at h
  refine AR.aload_n (pc := 0) (j := 0) dX5_makeForAll_0 rfl rfl ?_
  obtain ⟨r1, h1, h⟩ := bd_some h
  refine AR.callV (pc := 1) (As := []) (st := []) (ci := 5) dX5_makeForAll_1 ⟨cd_X5_openWhatIsReached, im_X5_openWhatIsReached, se_X5_openWhatIsReached, ini_X5⟩ ml_X5_62 (A5_openWhatIsReached σ _ h1) ⟨rfl, pd_X5_openWhatIsReached⟩ ⟨Nat.le_of_ble_eq_true rfl, Nat.le_of_ble_eq_true rfl⟩ ⟨rfl, rfl⟩ rfl rfl rfl (Nat.le_of_ble_eq_true rfl) ?_
  refine AR.aload_n (pc := 4) (j := 0) dX5_makeForAll_4 rfl rfl ?_
  refine AR.iconst (pc := 5) (v := 1) dX5_makeForAll_5 (by decide) ?_
  obtain ⟨r2, h2, h⟩ := bd_some h
  refine AR.callV (pc := 6) (As := [.int 1]) (st := []) (ci := 5) dX5_makeForAll_6 ⟨cd_X5_settleAll, im_X5_settleAll, se_X5_settleAll, ini_X5⟩ ml_X5_58 (A5_settleAll 30 grp30 1 r1 _ h2) ⟨rfl, pd_X5_settleAll⟩ ⟨Nat.le_of_ble_eq_true rfl, Nat.le_of_ble_eq_true rfl⟩ ⟨rfl, rfl⟩ rfl rfl rfl (Nat.le_of_ble_eq_true rfl) ?_
  exact AR.vret (pc := 9) rfl dX5_makeForAll_9 (hrV (Option.some.inj h))
set_option maxHeartbeats 4000000 in
set_option maxRecDepth 100000 in
theorem A6_isNext_35 {l : Launch} (σ : HS) (r : Int32 × HS) (h : f6_isNext_35 σ = some r) : AR l RX6 cX6_isNext 2 (some .boolean) (wsU yX6_isNext cX6_isNext 2 (some .boolean)) rm6_isNext SC 35 [] [] σ (some (.int r.1), r.2) := by
  unfold f6_isNext_35 at h
  refine AR.iconst (pc := 35) (v := 0) dX6_isNext_35 (by decide) ?_
  exact AR.zret (pc := 36) rfl (Or.inl rfl) dX6_isNext_36 (hrI (Option.some.inj h))
set_option maxHeartbeats 4000000 in
set_option maxRecDepth 100000 in
theorem A6_isNext {l : Launch} (x1 : Int32) (σ : HS) (r : Int32 × HS) (h : f6_isNext x1 σ = some r) : MA l yX6_isNext (wsU yX6_isNext cX6_isNext 2 (some .boolean)) rm6_isNext SC [.ref 19, .int x1] σ (some (.int r.1), r.2) := by
  refine MA.of (L := [(0, .ref 19), (1, .int x1)]) pn_X6_isNext rfl (fun _ => Nat.le_of_ble_eq_true rfl) (fun _ => rfl) ?_
  unfold f6_isNext at h
  refine AR.aload_n (pc := 0) (j := 0) dX6_isNext_0 rfl rfl ?_
  refine AR.getf (pc := 1) (ci := 6) (j := 4) (d := 0) (v := .int (σ.1 19 4)) (T := TX6) dX6_isNext_1 rfl rfl rfl (by decide) (fun w hw => wsU_in (uw_X6 w hw)) (wsU_in fl_X6_18) rfl ?_
  refine AR.aload_n (pc := 4) (j := 0) dX6_isNext_4 rfl rfl ?_
  refine AR.getf (pc := 5) (ci := 6) (j := 3) (d := 0) (v := .int (σ.1 19 3)) (T := TX6) dX6_isNext_5 rfl rfl rfl (by decide) (fun w hw => wsU_in (uw_X6 w hw)) (wsU_in fl_X6_15) rfl ?_
  refine AR.icmp_ge (pc := 8) (tgt := 35) dX6_isNext_8 (by decide) (fun c1 => ?_) (fun c1 => ?_)
  · replace h := ite_t c1 h
    exact AR.pick [] rfl (A6_isNext_35 σ r h)
  · replace h := ite_f c1 h
    refine AR.aload_n (pc := 11) (j := 0) dX6_isNext_11 rfl rfl ?_
    refine AR.getf (pc := 12) (ci := 6) (j := 0) (d := 4 + 2) (v := .ref 4) (T := TX6) dX6_isNext_12 rfl rfl rfl (by decide) (fun w hw => wsU_in (uw_X6 w hw)) (wsU_in fl_X6_24) rfl ?_
    refine AR.aload_n (pc := 15) (j := 0) dX6_isNext_15 rfl rfl ?_
    refine AR.getf (pc := 16) (ci := 6) (j := 2) (d := 0) (v := .int (σ.1 19 2)) (T := TX6) dX6_isNext_16 rfl rfl rfl (by decide) (fun w hw => wsU_in (uw_X6 w hw)) (wsU_in fl_X6_9) rfl ?_
    refine AR.aload_n (pc := 19) (j := 0) dX6_isNext_19 rfl rfl ?_
    refine AR.getf (pc := 20) (ci := 6) (j := 4) (d := 0) (v := .int (σ.1 19 4)) (T := TX6) dX6_isNext_20 rfl rfl rfl (by decide) (fun w hw => wsU_in (uw_X6 w hw)) (wsU_in fl_X6_18) rfl ?_
    refine AR.iadd (pc := 23) dX6_isNext_23 ?_
    obtain ⟨r2, h2, h⟩ := bd_some h
    refine AR.callSN (pc := 24) (As := [.ref 4, .int ((σ.1 19 2) + (σ.1 19 4))]) (st := []) dX6_isNext_24 ⟨cd_X8_at, sm_X8_at, ini_X8⟩ mn_X6_74 (A8_at 4 400 rfl ((σ.1 19 2) + (σ.1 19 4)) σ _ h2) pd_X8_at ⟨Nat.le_of_ble_eq_true rfl, Nat.le_of_ble_eq_true rfl⟩ ⟨rfl, rfl⟩ rfl (Nat.le_of_ble_eq_true rfl) ?_
    refine AR.iload_n (pc := 27) (j := 1) dX6_isNext_27 rfl rfl ?_
    refine AR.icmp_ne (pc := 28) (tgt := 35) dX6_isNext_28 (by decide) (fun c3 => ?_) (fun c3 => ?_)
    · replace h := ite_f c3 h
      exact AR.pick [] rfl (A6_isNext_35 (r2.2) r h)
    · replace h := ite_t c3 h
      refine AR.iconst (pc := 31) (v := 1) dX6_isNext_31 (by decide) ?_
      refine AR.goto (pc := 32) (tgt := 36) dX6_isNext_32 (by decide) ?_
      exact AR.zret (pc := 36) rfl (Or.inr rfl) dX6_isNext_36 (hrI (Option.some.inj h))
set_option maxHeartbeats 4000000 in
set_option maxRecDepth 100000 in
theorem A6_readSign {l : Launch} (x1 : Int32) (σ : HS) (r : Int32 × HS) (h : f6_readSign x1 σ = some r) : MA l yX6_readSign (wsU yX6_readSign cX6_readSign 2 (some .boolean)) rm6_readSign SC [.ref 19, .int x1] σ (some (.int r.1), r.2) := by
  refine MA.of (L := [(0, .ref 19), (1, .int x1)]) pn_X6_readSign rfl (fun _ => Nat.le_of_ble_eq_true rfl) (fun _ => rfl) ?_
  unfold f6_readSign at h
  refine AR.aload_n (pc := 0) (j := 0) dX6_readSign_0 rfl rfl ?_
  refine AR.iload_n (pc := 1) (j := 1) dX6_readSign_1 rfl rfl ?_
  obtain ⟨r1, h1, h⟩ := bd_some h
  refine AR.callV (pc := 2) (As := [.int x1]) (st := []) (ci := 6) dX6_readSign_2 ⟨cd_X6_isNext, im_X6_isNext, se_X6_isNext, ini_X6⟩ ml_X6_64 (A6_isNext x1 σ _ h1) ⟨rfl, pd_X6_isNext⟩ ⟨Nat.le_of_ble_eq_true rfl, Nat.le_of_ble_eq_true rfl⟩ ⟨rfl, rfl⟩ rfl rfl rfl (Nat.le_of_ble_eq_true rfl) ?_
  refine AR.if_ne (pc := 5) (tgt := 18) dX6_readSign_5 (by decide) (fun c2 => ?_) (fun c2 => ?_)
  · replace h := ite_f c2 h
    refine AR.aload_n (pc := 18) (j := 0) dX6_readSign_18 rfl rfl ?_
    refine AR.dup (pc := 19) dX6_readSign_19 rfl ?_
    refine AR.getf (pc := 20) (ci := 6) (j := 4) (d := 0) (v := .int ((r1.2).1 19 4)) (T := TX6) dX6_readSign_20 rfl rfl rfl (by decide) (fun w hw => wsU_in (uw_X6 w hw)) (wsU_in fl_X6_18) rfl ?_
    refine AR.iconst (pc := 23) (v := 1) dX6_readSign_23 (by decide) ?_
    refine AR.iadd (pc := 24) dX6_readSign_24 ?_
    refine AR.putI (pc := 25) (ci := 6) (j := 4) (T := TX6) (ty0 := tyX6) (ty := .int) dX6_readSign_25 rfl rfl rfl (by decide) (fun w hw => wsU_in (uw_X6 w hw)) tyX6_ok nmX6 (wsU_in fl_X6_18) rfl (by decide +kernel) rfl rfl ?_
    refine AR.iconst (pc := 28) (v := 1) dX6_readSign_28 (by decide) ?_
    exact AR.zret (pc := 29) rfl (Or.inr rfl) dX6_readSign_29 (hrI (Option.some.inj h))
  · replace h := ite_t c2 h
    refine AR.aload_n (pc := 8) (j := 0) dX6_readSign_8 rfl rfl ?_
    refine AR.aload_n (pc := 9) (j := 0) dX6_readSign_9 rfl rfl ?_
    refine AR.getf (pc := 10) (ci := 6) (j := 4) (d := 0) (v := .int ((r1.2).1 19 4)) (T := TX6) dX6_readSign_10 rfl rfl rfl (by decide) (fun w hw => wsU_in (uw_X6 w hw)) (wsU_in fl_X6_18) rfl ?_
    refine AR.putI (pc := 13) (ci := 6) (j := 5) (T := TX6) (ty0 := tyX6) (ty := .int) dX6_readSign_13 rfl rfl rfl (by decide) (fun w hw => wsU_in (uw_X6 w hw)) tyX6_ok nmX6 (wsU_in fl_X6_21) rfl (by decide +kernel) rfl rfl ?_
    refine AR.iconst (pc := 16) (v := 0) dX6_readSign_16 (by decide) ?_
    exact AR.zret (pc := 17) rfl (Or.inl rfl) dX6_readSign_17 (hrI (Option.some.inj h))
set_option maxHeartbeats 4000000 in
set_option maxRecDepth 100000 in
theorem A6_readDigit_40 {l : Launch} (σ : HS) (r : Int32 × HS) (h : f6_readDigit_40 σ = some r) : AR l RX6 cX6_readDigit 2 (some .int) (wsU yX6_readDigit cX6_readDigit 2 (some .int)) rm6_readDigit SC 40 [(0, .ref 19)] [] σ (some (.int r.1), r.2) := by
  unfold f6_readDigit_40 at h
  refine AR.aload_n (pc := 40) (j := 0) dX6_readDigit_40 rfl rfl ?_
  refine AR.aload_n (pc := 41) (j := 0) dX6_readDigit_41 rfl rfl ?_
  refine AR.getf (pc := 42) (ci := 6) (j := 4) (d := 0) (v := .int (σ.1 19 4)) (T := TX6) dX6_readDigit_42 rfl rfl rfl (by decide) (fun w hw => wsU_in (uw_X6 w hw)) (wsU_in fl_X6_18) rfl ?_
  refine AR.putI (pc := 45) (ci := 6) (j := 5) (T := TX6) (ty0 := tyX6) (ty := .int) dX6_readDigit_45 rfl rfl rfl (by decide) (fun w hw => wsU_in (uw_X6 w hw)) tyX6_ok nmX6 (wsU_in fl_X6_21) rfl (by decide +kernel) rfl rfl ?_
  refine AR.iconst (pc := 48) (v := (-1)) dX6_readDigit_48 (by decide) ?_
  exact AR.iret (pc := 49) rfl dX6_readDigit_49 (hrI (Option.some.inj h))
set_option maxHeartbeats 4000000 in
set_option maxRecDepth 100000 in
theorem A6_readDigit {l : Launch} (σ : HS) (r : Int32 × HS) (h : f6_readDigit σ = some r) : MA l yX6_readDigit (wsU yX6_readDigit cX6_readDigit 2 (some .int)) rm6_readDigit SC [.ref 19] σ (some (.int r.1), r.2) := by
  refine MA.of (L := [(0, .ref 19)]) pn_X6_readDigit rfl (fun _ => Nat.le_of_ble_eq_true rfl) (fun _ => rfl) ?_
  unfold f6_readDigit at h
  refine AR.aload_n (pc := 0) (j := 0) dX6_readDigit_0 rfl rfl ?_
  refine AR.getf (pc := 1) (ci := 6) (j := 0) (d := 4 + 2) (v := .ref 4) (T := TX6) dX6_readDigit_1 rfl rfl rfl (by decide) (fun w hw => wsU_in (uw_X6 w hw)) (wsU_in fl_X6_24) rfl ?_
  refine AR.aload_n (pc := 4) (j := 0) dX6_readDigit_4 rfl rfl ?_
  refine AR.getf (pc := 5) (ci := 6) (j := 2) (d := 0) (v := .int (σ.1 19 2)) (T := TX6) dX6_readDigit_5 rfl rfl rfl (by decide) (fun w hw => wsU_in (uw_X6 w hw)) (wsU_in fl_X6_9) rfl ?_
  refine AR.aload_n (pc := 8) (j := 0) dX6_readDigit_8 rfl rfl ?_
  refine AR.getf (pc := 9) (ci := 6) (j := 4) (d := 0) (v := .int (σ.1 19 4)) (T := TX6) dX6_readDigit_9 rfl rfl rfl (by decide) (fun w hw => wsU_in (uw_X6 w hw)) (wsU_in fl_X6_18) rfl ?_
  refine AR.iadd (pc := 12) dX6_readDigit_12 ?_
  obtain ⟨r1, h1, h⟩ := bd_some h
  refine AR.callSN (pc := 13) (As := [.ref 4, .int ((σ.1 19 2) + (σ.1 19 4))]) (st := []) dX6_readDigit_13 ⟨cd_X8_at, sm_X8_at, ini_X8⟩ mn_X6_74 (A8_at 4 400 rfl ((σ.1 19 2) + (σ.1 19 4)) σ _ h1) pd_X8_at ⟨Nat.le_of_ble_eq_true rfl, Nat.le_of_ble_eq_true rfl⟩ ⟨rfl, rfl⟩ rfl (Nat.le_of_ble_eq_true rfl) ?_
  refine AR.istore_n (pc := 16) (L2 := [(1, .int (r1.1)), (0, .ref 19)]) dX6_readDigit_16 rfl (by decide) rfl ?_
  refine AR.aload_n (pc := 17) (j := 1) dX6_readDigit_17 rfl rfl ?_
  refine AR.getf (pc := 18) (ci := 6) (j := 4) (d := 0) (v := .int ((r1.2).1 19 4)) (T := TX6) dX6_readDigit_18 rfl rfl rfl (by decide) (fun w hw => wsU_in (uw_X6 w hw)) (wsU_in fl_X6_18) rfl ?_
  refine AR.aload_n (pc := 21) (j := 1) dX6_readDigit_21 rfl rfl ?_
  refine AR.getf (pc := 22) (ci := 6) (j := 3) (d := 0) (v := .int ((r1.2).1 19 3)) (T := TX6) dX6_readDigit_22 rfl rfl rfl (by decide) (fun w hw => wsU_in (uw_X6 w hw)) (wsU_in fl_X6_15) rfl ?_
  refine AR.icmp_ge (pc := 25) (tgt := 40) dX6_readDigit_25 (by decide) (fun c2 => ?_) (fun c2 => ?_)
  · replace h := ite_t c2 h
    exact AR.pick [1] rfl (A6_readDigit_40 (r1.2) r h)
  · replace h := ite_f c2 h
    refine AR.iload_n (pc := 28) (j := 0) dX6_readDigit_28 rfl rfl ?_
    refine AR.bipush (pc := 29) (v := 48) dX6_readDigit_29 (by decide) ?_
    refine AR.icmp_lt (pc := 31) (tgt := 40) dX6_readDigit_31 (by decide) (fun c3 => ?_) (fun c3 => ?_)
    · replace h := ite_t c3 h
      exact AR.pick [1] rfl (A6_readDigit_40 (r1.2) r h)
    · replace h := ite_f c3 h
      refine AR.iload_n (pc := 34) (j := 0) dX6_readDigit_34 rfl rfl ?_
      refine AR.bipush (pc := 35) (v := 57) dX6_readDigit_35 (by decide) ?_
      refine AR.icmp_le (pc := 37) (tgt := 50) dX6_readDigit_37 (by decide) (fun c4 => ?_) (fun c4 => ?_)
      · replace h := ite_t c4 h
        refine AR.aload_n (pc := 50) (j := 1) dX6_readDigit_50 rfl rfl ?_
        refine AR.dup (pc := 51) dX6_readDigit_51 rfl ?_
        refine AR.getf (pc := 52) (ci := 6) (j := 4) (d := 0) (v := .int ((r1.2).1 19 4)) (T := TX6) dX6_readDigit_52 rfl rfl rfl (by decide) (fun w hw => wsU_in (uw_X6 w hw)) (wsU_in fl_X6_18) rfl ?_
        refine AR.iconst (pc := 55) (v := 1) dX6_readDigit_55 (by decide) ?_
        refine AR.iadd (pc := 56) dX6_readDigit_56 ?_
        refine AR.putI (pc := 57) (ci := 6) (j := 4) (T := TX6) (ty0 := tyX6) (ty := .int) dX6_readDigit_57 rfl rfl rfl (by decide) (fun w hw => wsU_in (uw_X6 w hw)) tyX6_ok nmX6 (wsU_in fl_X6_18) rfl (by decide +kernel) rfl rfl ?_
        refine AR.iload_n (pc := 60) (j := 0) dX6_readDigit_60 rfl rfl ?_
        refine AR.bipush (pc := 61) (v := 48) dX6_readDigit_61 (by decide) ?_
        refine AR.isub (pc := 63) dX6_readDigit_63 ?_
        exact AR.iret (pc := 64) rfl dX6_readDigit_64 (hrI (Option.some.inj h))
      · replace h := ite_f c4 h
        exact AR.pick [1] rfl (A6_readDigit_40 (r1.2) r h)
set_option maxHeartbeats 4000000 in
set_option maxRecDepth 100000 in
theorem A6_readNumber_65 {l : Launch} (x2 : Int32) (σ : HS) (r : Int32 × HS) (h : f6_readNumber_65 x2 σ = some r) : AR l RX6 cX6_readNumber 6 (some .int) (wsU yX6_readNumber cX6_readNumber 6 (some .int)) rm6_readNumber SC 65 [(0, .ref 19), (2, .int x2)] [] σ (some (.int r.1), r.2) := by
  unfold f6_readNumber_65 at h
  refine AR.aload_n (pc := 65) (j := 0) dX6_readNumber_65 rfl rfl ?_
  refine AR.iload_n (pc := 66) (j := 1) dX6_readNumber_66 rfl rfl ?_
  refine AR.putI (pc := 67) (ci := 6) (j := 5) (T := TX6) (ty0 := tyX6) (ty := .int) dX6_readNumber_67 rfl rfl rfl (by decide) (fun w hw => wsU_in (uw_X6 w hw)) tyX6_ok nmX6 (wsU_in fl_X6_21) rfl (by decide +kernel) rfl rfl ?_
  refine AR.iconst (pc := 70) (v := (-1)) dX6_readNumber_70 (by decide) ?_
  exact AR.iret (pc := 71) rfl dX6_readNumber_71 (hrI (Option.some.inj h))
set_option maxHeartbeats 4000000 in
set_option maxRecDepth 100000 in
theorem A6_readNumber {l : Launch} (x1 : Int32) (σ : HS) (r : Int32 × HS) (h : f6_readNumber x1 σ = some r) : MA l yX6_readNumber (wsU yX6_readNumber cX6_readNumber 6 (some .int)) rm6_readNumber SC [.ref 19, .int x1] σ (some (.int r.1), r.2) := by
  refine MA.of (L := [(0, .ref 19), (1, .int x1)]) pn_X6_readNumber rfl (fun _ => Nat.le_of_ble_eq_true rfl) (fun _ => rfl) ?_
  unfold f6_readNumber at h
  refine AR.aload_n (pc := 0) (j := 0) dX6_readNumber_0 rfl rfl ?_
  refine AR.getf (pc := 1) (ci := 6) (j := 4) (d := 0) (v := .int (σ.1 19 4)) (T := TX6) dX6_readNumber_1 rfl rfl rfl (by decide) (fun w hw => wsU_in (uw_X6 w hw)) (wsU_in fl_X6_18) rfl ?_
  refine AR.istore_n (pc := 4) (L2 := [(2, .int (σ.1 19 4)), (0, .ref 19), (1, .int x1)]) dX6_readNumber_4 rfl (by decide) rfl ?_
  refine AR.aload_n (pc := 5) (j := 1) dX6_readNumber_5 rfl rfl ?_
  obtain ⟨r1, h1, h⟩ := bd_some h
  refine AR.callV (pc := 6) (As := []) (st := []) (ci := 6) dX6_readNumber_6 ⟨cd_X6_readDigit, im_X6_readDigit, se_X6_readDigit, ini_X6⟩ ml_X6_47 (A6_readDigit σ _ h1) ⟨rfl, pd_X6_readDigit⟩ ⟨Nat.le_of_ble_eq_true rfl, Nat.le_of_ble_eq_true rfl⟩ ⟨rfl, rfl⟩ rfl rfl rfl (Nat.le_of_ble_eq_true rfl) ?_
  refine AR.istore_n (pc := 9) (L2 := [(3, .int (r1.1)), (2, .int (σ.1 19 4)), (0, .ref 19), (1, .int x1)]) dX6_readNumber_9 rfl (by decide) rfl ?_
  refine AR.iload_n (pc := 10) (j := 0) dX6_readNumber_10 rfl rfl ?_
  refine AR.if_ge (pc := 11) (tgt := 16) dX6_readNumber_11 (by decide) (fun c2 => ?_) (fun c2 => ?_)
  · replace h := ite_t c2 h
    refine AR.iload_n (pc := 16) (j := 0) dX6_readNumber_16 rfl rfl ?_
    refine AR.iload_n (pc := 17) (j := 3) dX6_readNumber_17 rfl rfl ?_
    refine AR.bipush (pc := 18) (v := 10) dX6_readNumber_18 (by decide) ?_
    refine AR.idiv (pc := 20) dX6_readNumber_20 (by decide) ?_
    refine AR.icmp_le (pc := 21) (tgt := 31) dX6_readNumber_21 (by decide) (fun c3 => ?_) (fun c3 => ?_)
    · replace h := ite_t c3 h
      refine AR.aload_n (pc := 31) (j := 2) dX6_readNumber_31 rfl rfl ?_
      obtain ⟨r4, h4, h⟩ := bd_some h
      refine AR.callV (pc := 32) (As := []) (st := []) (ci := 6) dX6_readNumber_32 ⟨cd_X6_readDigit, im_X6_readDigit, se_X6_readDigit, ini_X6⟩ ml_X6_47 (A6_readDigit (r1.2) _ h4) ⟨rfl, pd_X6_readDigit⟩ ⟨Nat.le_of_ble_eq_true rfl, Nat.le_of_ble_eq_true rfl⟩ ⟨rfl, rfl⟩ rfl rfl rfl (Nat.le_of_ble_eq_true rfl) ?_
      refine AR.istore (pc := 35) (L2 := [(4, .int (r4.1)), (3, .int (r1.1)), (2, .int (σ.1 19 4)), (0, .ref 19), (1, .int x1)]) dX6_readNumber_35 (by decide) rfl ?_
      refine AR.iload (pc := 37) (j := 0) dX6_readNumber_37 rfl ?_
      refine AR.if_ge (pc := 39) (tgt := 44) dX6_readNumber_39 (by decide) (fun c5 => ?_) (fun c5 => ?_)
      · replace h := ite_t c5 h
        refine AR.bipush (pc := 44) (v := 10) dX6_readNumber_44 (by decide) ?_
        refine AR.iload_n (pc := 46) (j := 1) dX6_readNumber_46 rfl rfl ?_
        refine AR.imul (pc := 47) dX6_readNumber_47 ?_
        refine AR.iload (pc := 48) (j := 0) dX6_readNumber_48 rfl ?_
        refine AR.iadd (pc := 50) dX6_readNumber_50 ?_
        refine AR.istore (pc := 51) (L2 := [(5, .int ((10 * (r1.1)) + (r4.1))), (4, .int (r4.1)), (3, .int (r1.1)), (2, .int (σ.1 19 4)), (0, .ref 19), (1, .int x1)]) dX6_readNumber_51 (by decide) rfl ?_
        refine AR.iload (pc := 53) (j := 0) dX6_readNumber_53 rfl ?_
        refine AR.iconst (pc := 55) (v := 1) dX6_readNumber_55 (by decide) ?_
        refine AR.icmp_lt (pc := 56) (tgt := 65) dX6_readNumber_56 (by decide) (fun c6 => ?_) (fun c6 => ?_)
        · replace h := ite_t c6 h
          exact AR.pick [4, 3] rfl (A6_readNumber_65 (σ.1 19 4) (r4.2) r h)
        · replace h := ite_f c6 h
          refine AR.iload (pc := 59) (j := 0) dX6_readNumber_59 rfl ?_
          refine AR.iload_n (pc := 61) (j := 5) dX6_readNumber_61 rfl rfl ?_
          refine AR.icmp_le (pc := 62) (tgt := 72) dX6_readNumber_62 (by decide) (fun c7 => ?_) (fun c7 => ?_)
          · replace h := ite_t c7 h
            refine AR.iload (pc := 72) (j := 0) dX6_readNumber_72 rfl ?_
            exact AR.iret (pc := 74) rfl dX6_readNumber_74 (hrI (Option.some.inj h))
          · replace h := ite_f c7 h
            exact AR.pick [4, 3] rfl (A6_readNumber_65 (σ.1 19 4) (r4.2) r h)
      · replace h := ite_f c5 h
        refine AR.iconst (pc := 42) (v := (-1)) dX6_readNumber_42 (by decide) ?_
        exact AR.iret (pc := 43) rfl dX6_readNumber_43 (hrI (Option.some.inj h))
    · replace h := ite_f c3 h
      refine AR.aload_n (pc := 24) (j := 2) dX6_readNumber_24 rfl rfl ?_
      refine AR.iload_n (pc := 25) (j := 1) dX6_readNumber_25 rfl rfl ?_
      refine AR.putI (pc := 26) (ci := 6) (j := 5) (T := TX6) (ty0 := tyX6) (ty := .int) dX6_readNumber_26 rfl rfl rfl (by decide) (fun w hw => wsU_in (uw_X6 w hw)) tyX6_ok nmX6 (wsU_in fl_X6_21) rfl (by decide +kernel) rfl rfl ?_
      refine AR.iconst (pc := 29) (v := (-1)) dX6_readNumber_29 (by decide) ?_
      exact AR.iret (pc := 30) rfl dX6_readNumber_30 (hrI (Option.some.inj h))
  · replace h := ite_f c2 h
    refine AR.iconst (pc := 14) (v := (-1)) dX6_readNumber_14 (by decide) ?_
    exact AR.iret (pc := 15) rfl dX6_readNumber_15 (hrI (Option.some.inj h))
set_option maxHeartbeats 4000000 in
set_option maxRecDepth 100000 in
theorem A6_readJar {l : Launch} (σ : HS) (r : Int32 × HS) (h : f6_readJar σ = some r) : MA l yX6_readJar (wsU yX6_readJar cX6_readJar 3 (some .boolean)) rm6_readJar SC [.ref 19] σ (some (.int r.1), r.2) := by
  refine MA.of (L := [(0, .ref 19)]) pn_X6_readJar rfl (fun _ => Nat.le_of_ble_eq_true rfl) (fun _ => rfl) ?_
  unfold f6_readJar at h
  refine AR.aload_n (pc := 0) (j := 0) dX6_readJar_0 rfl rfl ?_
  refine AR.bipush (pc := 1) (v := 106) dX6_readJar_1 (by decide) ?_
  obtain ⟨r1, h1, h⟩ := bd_some h
  refine AR.callV (pc := 3) (As := [.int 106]) (st := []) (ci := 6) dX6_readJar_3 ⟨cd_X6_readSign, im_X6_readSign, se_X6_readSign, ini_X6⟩ ml_X6_36 (A6_readSign 106 σ _ h1) ⟨rfl, pd_X6_readSign⟩ ⟨Nat.le_of_ble_eq_true rfl, Nat.le_of_ble_eq_true rfl⟩ ⟨rfl, rfl⟩ rfl rfl rfl (Nat.le_of_ble_eq_true rfl) ?_
  refine AR.if_ne (pc := 6) (tgt := 11) dX6_readJar_6 (by decide) (fun c2 => ?_) (fun c2 => ?_)
  · replace h := ite_f c2 h
    refine AR.aload_n (pc := 11) (j := 0) dX6_readJar_11 rfl rfl ?_
    refine AR.bipush (pc := 12) (v := 99) dX6_readJar_12 (by decide) ?_
    obtain ⟨r3, h3, h⟩ := bd_some h
    refine AR.callV (pc := 14) (As := [.int 99]) (st := []) (ci := 6) dX6_readJar_14 ⟨cd_X6_readNumber, im_X6_readNumber, se_X6_readNumber, ini_X6⟩ ml_X6_43 (A6_readNumber 99 (r1.2) _ h3) ⟨rfl, pd_X6_readNumber⟩ ⟨Nat.le_of_ble_eq_true rfl, Nat.le_of_ble_eq_true rfl⟩ ⟨rfl, rfl⟩ rfl rfl rfl (Nat.le_of_ble_eq_true rfl) ?_
    refine AR.istore_n (pc := 17) (L2 := [(1, .int (r3.1)), (0, .ref 19)]) dX6_readJar_17 rfl (by decide) rfl ?_
    refine AR.iload_n (pc := 18) (j := 0) dX6_readJar_18 rfl rfl ?_
    refine AR.if_lt (pc := 19) (tgt := 40) dX6_readJar_19 (by decide) (fun c4 => ?_) (fun c4 => ?_)
    · replace h := ite_t c4 h
      refine AR.iconst (pc := 40) (v := 0) dX6_readJar_40 (by decide) ?_
      exact AR.zret (pc := 41) rfl (Or.inl rfl) dX6_readJar_41 (hrI (Option.some.inj h))
    · replace h := ite_f c4 h
      refine AR.aload_n (pc := 22) (j := 1) dX6_readJar_22 rfl rfl ?_
      refine AR.bipush (pc := 23) (v := 59) dX6_readJar_23 (by decide) ?_
      obtain ⟨r5, h5, h⟩ := bd_some h
      refine AR.callV (pc := 25) (As := [.int 59]) (st := []) (ci := 6) dX6_readJar_25 ⟨cd_X6_readSign, im_X6_readSign, se_X6_readSign, ini_X6⟩ ml_X6_36 (A6_readSign 59 (r3.2) _ h5) ⟨rfl, pd_X6_readSign⟩ ⟨Nat.le_of_ble_eq_true rfl, Nat.le_of_ble_eq_true rfl⟩ ⟨rfl, rfl⟩ rfl rfl rfl (Nat.le_of_ble_eq_true rfl) ?_
      refine AR.if_eq (pc := 28) (tgt := 40) dX6_readJar_28 (by decide) (fun c6 => ?_) (fun c6 => ?_)
      · replace h := ite_t c6 h
        refine AR.iconst (pc := 40) (v := 0) dX6_readJar_40 (by decide) ?_
        exact AR.zret (pc := 41) rfl (Or.inl rfl) dX6_readJar_41 (hrI (Option.some.inj h))
      · replace h := ite_f c6 h
        refine AR.aload_n (pc := 31) (j := 1) dX6_readJar_31 rfl rfl ?_
        refine AR.bipush (pc := 32) (v := 108) dX6_readJar_32 (by decide) ?_
        obtain ⟨r7, h7, h⟩ := bd_some h
        refine AR.callV (pc := 34) (As := [.int 108]) (st := []) (ci := 6) dX6_readJar_34 ⟨cd_X6_readSign, im_X6_readSign, se_X6_readSign, ini_X6⟩ ml_X6_36 (A6_readSign 108 (r5.2) _ h7) ⟨rfl, pd_X6_readSign⟩ ⟨Nat.le_of_ble_eq_true rfl, Nat.le_of_ble_eq_true rfl⟩ ⟨rfl, rfl⟩ rfl rfl rfl (Nat.le_of_ble_eq_true rfl) ?_
        refine AR.if_ne (pc := 37) (tgt := 42) dX6_readJar_37 (by decide) (fun c8 => ?_) (fun c8 => ?_)
        · replace h := ite_f c8 h
          refine AR.aload_n (pc := 42) (j := 1) dX6_readJar_42 rfl rfl ?_
          obtain ⟨r9, h9, h⟩ := bd_some h
          refine AR.callV (pc := 43) (As := []) (st := []) (ci := 6) dX6_readJar_43 ⟨cd_X6_readDigit, im_X6_readDigit, se_X6_readDigit, ini_X6⟩ ml_X6_47 (A6_readDigit (r7.2) _ h9) ⟨rfl, pd_X6_readDigit⟩ ⟨Nat.le_of_ble_eq_true rfl, Nat.le_of_ble_eq_true rfl⟩ ⟨rfl, rfl⟩ rfl rfl rfl (Nat.le_of_ble_eq_true rfl) ?_
          refine AR.istore_n (pc := 46) (L2 := [(2, .int (r9.1)), (1, .int (r3.1)), (0, .ref 19)]) dX6_readJar_46 rfl (by decide) rfl ?_
          refine AR.aload_n (pc := 47) (j := 2) dX6_readJar_47 rfl rfl ?_
          refine AR.getf (pc := 48) (ci := 6) (j := 1) (d := 12 + 2) (v := .ref 12) (T := TX6) dX6_readJar_48 rfl rfl rfl (by decide) (fun w hw => wsU_in (uw_X6 w hw)) (wsU_in fl_X6_28) rfl ?_
          refine AR.iload_n (pc := 51) (j := 1) dX6_readJar_51 rfl rfl ?_
          refine AR.iload_n (pc := 52) (j := 0) dX6_readJar_52 rfl rfl ?_
          obtain ⟨r10, h10, h⟩ := bd_some h
          refine AR.callVN (pc := 53) (As := [.int (r3.1), .int (r9.1)]) (st := []) (ci := 4) dX6_readJar_53 ⟨cd_X4_begin, im_X4_begin, se_X4_begin, ini_X4⟩ mn_X6_51 (A4_begin 12 ppl12 (r3.1) (r9.1) (r9.2) _ h10) ⟨rfl, pd_X4_begin⟩ ⟨Nat.le_of_ble_eq_true rfl, Nat.le_of_ble_eq_true rfl⟩ ⟨rfl, rfl⟩ rfl rfl rfl (Nat.le_of_ble_eq_true rfl) ?_
          refine AR.iload_n (pc := 56) (j := 0) dX6_readJar_56 rfl rfl ?_
          refine AR.if_lt (pc := 57) (tgt := 64) dX6_readJar_57 (by decide) (fun c11 => ?_) (fun c11 => ?_)
          · replace h := ite_t c11 h
            refine AR.iconst (pc := 64) (v := 0) dX6_readJar_64 (by decide) ?_
            exact AR.zret (pc := 65) rfl (Or.inl rfl) dX6_readJar_65 (hrI (Option.some.inj h))
          · replace h := ite_f c11 h
            refine AR.iconst (pc := 60) (v := 1) dX6_readJar_60 (by decide) ?_
            refine AR.goto (pc := 61) (tgt := 65) dX6_readJar_61 (by decide) ?_
            exact AR.zret (pc := 65) rfl (Or.inr rfl) dX6_readJar_65 (hrI (Option.some.inj h))
        · replace h := ite_t c8 h
          refine AR.iconst (pc := 40) (v := 0) dX6_readJar_40 (by decide) ?_
          exact AR.zret (pc := 41) rfl (Or.inl rfl) dX6_readJar_41 (hrI (Option.some.inj h))
  · replace h := ite_t c2 h
    refine AR.iconst (pc := 9) (v := 0) dX6_readJar_9 (by decide) ?_
    exact AR.zret (pc := 10) rfl (Or.inl rfl) dX6_readJar_10 (hrI (Option.some.inj h))
set_option maxHeartbeats 4000000 in
set_option maxRecDepth 100000 in
theorem A6_kindOfSign {l : Launch} (σ : HS) (r : Int32 × HS) (h : f6_kindOfSign σ = some r) : MA l yX6_kindOfSign (wsU yX6_kindOfSign cX6_kindOfSign 1 (some .int)) rm6_kindOfSign SC [.ref 19] σ (some (.int r.1), r.2) := by
  refine MA.of (L := [(0, .ref 19)]) pn_X6_kindOfSign rfl (fun _ => Nat.le_of_ble_eq_true rfl) (fun _ => rfl) ?_
  unfold f6_kindOfSign at h
  refine AR.aload_n (pc := 0) (j := 0) dX6_kindOfSign_0 rfl rfl ?_
  refine AR.bipush (pc := 1) (v := 112) dX6_kindOfSign_1 (by decide) ?_
  obtain ⟨r1, h1, h⟩ := bd_some h
  refine AR.callV (pc := 3) (As := [.int 112]) (st := []) (ci := 6) dX6_kindOfSign_3 ⟨cd_X6_isNext, im_X6_isNext, se_X6_isNext, ini_X6⟩ ml_X6_64 (A6_isNext 112 σ _ h1) ⟨rfl, pd_X6_isNext⟩ ⟨Nat.le_of_ble_eq_true rfl, Nat.le_of_ble_eq_true rfl⟩ ⟨rfl, rfl⟩ rfl rfl rfl (Nat.le_of_ble_eq_true rfl) ?_
  refine AR.if_eq (pc := 6) (tgt := 11) dX6_kindOfSign_6 (by decide) (fun c2 => ?_) (fun c2 => ?_)
  · replace h := ite_t c2 h
    refine AR.aload_n (pc := 11) (j := 0) dX6_kindOfSign_11 rfl rfl ?_
    refine AR.bipush (pc := 12) (v := 116) dX6_kindOfSign_12 (by decide) ?_
    obtain ⟨r3, h3, h⟩ := bd_some h
    refine AR.callV (pc := 14) (As := [.int 116]) (st := []) (ci := 6) dX6_kindOfSign_14 ⟨cd_X6_isNext, im_X6_isNext, se_X6_isNext, ini_X6⟩ ml_X6_64 (A6_isNext 116 (r1.2) _ h3) ⟨rfl, pd_X6_isNext⟩ ⟨Nat.le_of_ble_eq_true rfl, Nat.le_of_ble_eq_true rfl⟩ ⟨rfl, rfl⟩ rfl rfl rfl (Nat.le_of_ble_eq_true rfl) ?_
    refine AR.if_eq (pc := 17) (tgt := 22) dX6_kindOfSign_17 (by decide) (fun c4 => ?_) (fun c4 => ?_)
    · replace h := ite_t c4 h
      refine AR.aload_n (pc := 22) (j := 0) dX6_kindOfSign_22 rfl rfl ?_
      refine AR.bipush (pc := 23) (v := 111) dX6_kindOfSign_23 (by decide) ?_
      obtain ⟨r5, h5, h⟩ := bd_some h
      refine AR.callV (pc := 25) (As := [.int 111]) (st := []) (ci := 6) dX6_kindOfSign_25 ⟨cd_X6_isNext, im_X6_isNext, se_X6_isNext, ini_X6⟩ ml_X6_64 (A6_isNext 111 (r3.2) _ h5) ⟨rfl, pd_X6_isNext⟩ ⟨Nat.le_of_ble_eq_true rfl, Nat.le_of_ble_eq_true rfl⟩ ⟨rfl, rfl⟩ rfl rfl rfl (Nat.le_of_ble_eq_true rfl) ?_
      refine AR.if_eq (pc := 28) (tgt := 35) dX6_kindOfSign_28 (by decide) (fun c6 => ?_) (fun c6 => ?_)
      · replace h := ite_t c6 h
        refine AR.iconst (pc := 35) (v := (-1)) dX6_kindOfSign_35 (by decide) ?_
        exact AR.iret (pc := 36) rfl dX6_kindOfSign_36 (hrI (Option.some.inj h))
      · replace h := ite_f c6 h
        refine AR.iconst (pc := 31) (v := 2) dX6_kindOfSign_31 (by decide) ?_
        refine AR.goto (pc := 32) (tgt := 36) dX6_kindOfSign_32 (by decide) ?_
        exact AR.iret (pc := 36) rfl dX6_kindOfSign_36 (hrI (Option.some.inj h))
    · replace h := ite_f c4 h
      refine AR.iconst (pc := 20) (v := 1) dX6_kindOfSign_20 (by decide) ?_
      exact AR.iret (pc := 21) rfl dX6_kindOfSign_21 (hrI (Option.some.inj h))
  · replace h := ite_f c2 h
    refine AR.iconst (pc := 9) (v := 0) dX6_kindOfSign_9 (by decide) ?_
    exact AR.iret (pc := 10) rfl dX6_kindOfSign_10 (hrI (Option.some.inj h))
set_option maxHeartbeats 4000000 in
set_option maxRecDepth 100000 in
theorem A6_readWord {l : Launch} (σ : HS) (r : Int32 × HS) (h : f6_readWord σ = some r) : MA l yX6_readWord (wsU yX6_readWord cX6_readWord 4 (some .boolean)) rm6_readWord SC [.ref 19] σ (some (.int r.1), r.2) := by
  refine MA.of (L := [(0, .ref 19)]) pn_X6_readWord rfl (fun _ => Nat.le_of_ble_eq_true rfl) (fun _ => rfl) ?_
  unfold f6_readWord at h
  refine AR.aload_n (pc := 0) (j := 0) dX6_readWord_0 rfl rfl ?_
  refine AR.bipush (pc := 1) (v := 60) dX6_readWord_1 (by decide) ?_
  obtain ⟨r1, h1, h⟩ := bd_some h
  refine AR.callV (pc := 3) (As := [.int 60]) (st := []) (ci := 6) dX6_readWord_3 ⟨cd_X6_readNumber, im_X6_readNumber, se_X6_readNumber, ini_X6⟩ ml_X6_43 (A6_readNumber 60 σ _ h1) ⟨rfl, pd_X6_readNumber⟩ ⟨Nat.le_of_ble_eq_true rfl, Nat.le_of_ble_eq_true rfl⟩ ⟨rfl, rfl⟩ rfl rfl rfl (Nat.le_of_ble_eq_true rfl) ?_
  refine AR.istore_n (pc := 6) (L2 := [(1, .int (r1.1)), (0, .ref 19)]) dX6_readWord_6 rfl (by decide) rfl ?_
  refine AR.iload_n (pc := 7) (j := 0) dX6_readWord_7 rfl rfl ?_
  refine AR.if_ge (pc := 8) (tgt := 13) dX6_readWord_8 (by decide) (fun c2 => ?_) (fun c2 => ?_)
  · replace h := ite_t c2 h
    refine AR.aload_n (pc := 13) (j := 1) dX6_readWord_13 rfl rfl ?_
    obtain ⟨r3, h3, h⟩ := bd_some h
    refine AR.callV (pc := 14) (As := []) (st := []) (ci := 6) dX6_readWord_14 ⟨cd_X6_readDigit, im_X6_readDigit, se_X6_readDigit, ini_X6⟩ ml_X6_47 (A6_readDigit (r1.2) _ h3) ⟨rfl, pd_X6_readDigit⟩ ⟨Nat.le_of_ble_eq_true rfl, Nat.le_of_ble_eq_true rfl⟩ ⟨rfl, rfl⟩ rfl rfl rfl (Nat.le_of_ble_eq_true rfl) ?_
    refine AR.istore_n (pc := 17) (L2 := [(2, .int (r3.1)), (1, .int (r1.1)), (0, .ref 19)]) dX6_readWord_17 rfl (by decide) rfl ?_
    refine AR.iload_n (pc := 18) (j := 0) dX6_readWord_18 rfl rfl ?_
    refine AR.if_ge (pc := 19) (tgt := 24) dX6_readWord_19 (by decide) (fun c4 => ?_) (fun c4 => ?_)
    · replace h := ite_t c4 h
      refine AR.aload_n (pc := 24) (j := 2) dX6_readWord_24 rfl rfl ?_
      obtain ⟨r5, h5, h⟩ := bd_some h
      refine AR.callV (pc := 25) (As := []) (st := []) (ci := 6) dX6_readWord_25 ⟨cd_X6_readDigit, im_X6_readDigit, se_X6_readDigit, ini_X6⟩ ml_X6_47 (A6_readDigit (r3.2) _ h5) ⟨rfl, pd_X6_readDigit⟩ ⟨Nat.le_of_ble_eq_true rfl, Nat.le_of_ble_eq_true rfl⟩ ⟨rfl, rfl⟩ rfl rfl rfl (Nat.le_of_ble_eq_true rfl) ?_
      refine AR.istore_n (pc := 28) (L2 := [(3, .int (r5.1)), (2, .int (r3.1)), (1, .int (r1.1)), (0, .ref 19)]) dX6_readWord_28 rfl (by decide) rfl ?_
      refine AR.aload_n (pc := 29) (j := 3) dX6_readWord_29 rfl rfl ?_
      refine AR.getf (pc := 30) (ci := 6) (j := 1) (d := 12 + 2) (v := .ref 12) (T := TX6) dX6_readWord_30 rfl rfl rfl (by decide) (fun w hw => wsU_in (uw_X6 w hw)) (wsU_in fl_X6_28) rfl ?_
      refine AR.iload_n (pc := 33) (j := 2) dX6_readWord_33 rfl rfl ?_
      refine AR.iload_n (pc := 34) (j := 1) dX6_readWord_34 rfl rfl ?_
      refine AR.iload_n (pc := 35) (j := 0) dX6_readWord_35 rfl rfl ?_
      obtain ⟨r6, h6, h⟩ := bd_some h
      refine AR.callVN (pc := 36) (As := [.int (r1.1), .int (r3.1), .int (r5.1)]) (st := []) (ci := 4) dX6_readWord_36 ⟨cd_X4_addWord, im_X4_addWord, se_X4_addWord, ini_X4⟩ mn_X6_70 (A4_addWord 12 ppl12 (r1.1) (r3.1) (r5.1) (r5.2) _ h6) ⟨rfl, pd_X4_addWord⟩ ⟨Nat.le_of_ble_eq_true rfl, Nat.le_of_ble_eq_true rfl⟩ ⟨rfl, rfl⟩ rfl rfl rfl (Nat.le_of_ble_eq_true rfl) ?_
      refine AR.iload_n (pc := 39) (j := 0) dX6_readWord_39 rfl rfl ?_
      refine AR.if_lt (pc := 40) (tgt := 47) dX6_readWord_40 (by decide) (fun c7 => ?_) (fun c7 => ?_)
      · replace h := ite_t c7 h
        refine AR.iconst (pc := 47) (v := 0) dX6_readWord_47 (by decide) ?_
        exact AR.zret (pc := 48) rfl (Or.inl rfl) dX6_readWord_48 (hrI (Option.some.inj h))
      · replace h := ite_f c7 h
        refine AR.iconst (pc := 43) (v := 1) dX6_readWord_43 (by decide) ?_
        refine AR.goto (pc := 44) (tgt := 48) dX6_readWord_44 (by decide) ?_
        exact AR.zret (pc := 48) rfl (Or.inr rfl) dX6_readWord_48 (hrI (Option.some.inj h))
    · replace h := ite_f c4 h
      refine AR.iconst (pc := 22) (v := 0) dX6_readWord_22 (by decide) ?_
      exact AR.zret (pc := 23) rfl (Or.inl rfl) dX6_readWord_23 (hrI (Option.some.inj h))
  · replace h := ite_f c2 h
    refine AR.iconst (pc := 11) (v := 0) dX6_readWord_11 (by decide) ?_
    exact AR.zret (pc := 12) rfl (Or.inl rfl) dX6_readWord_12 (hrI (Option.some.inj h))
set_option maxHeartbeats 4000000 in
set_option maxRecDepth 100000 in
theorem A6_readSpeaker_59 {l : Launch} (k39 : Int32 × HS → Option (Int32 × HS)) (x2 : Int32) (hk39 : ∀ (p : Int32 × HS) (r : Int32 × HS), k39 p = some r → AR l RX6 cX6_readSpeaker 3 (some .boolean) (wsU yX6_readSpeaker cX6_readSpeaker 3 (some .boolean)) rm6_readSpeaker SC 39 [(0, .ref 19), (2, .int (p.1))] [] p.2 (some (.int r.1), r.2)) (σ : HS) (r : Int32 × HS) (h : f6_readSpeaker_59 k39 x2 σ = some r) : AR l RX6 cX6_readSpeaker 3 (some .boolean) (wsU yX6_readSpeaker cX6_readSpeaker 3 (some .boolean)) rm6_readSpeaker SC 59 [(0, .ref 19), (2, .int x2)] [] σ (some (.int r.1), r.2) := by
  unfold f6_readSpeaker_59 at h
  refine AR.aload_n (pc := 59) (j := 0) dX6_readSpeaker_59 rfl rfl ?_
  refine AR.bipush (pc := 60) (v := 119) dX6_readSpeaker_60 (by decide) ?_
  obtain ⟨r1, h1, h⟩ := bd_some h
  refine AR.callV (pc := 62) (As := [.int 119]) (st := []) (ci := 6) dX6_readSpeaker_62 ⟨cd_X6_readSign, im_X6_readSign, se_X6_readSign, ini_X6⟩ ml_X6_36 (A6_readSign 119 σ _ h1) ⟨rfl, pd_X6_readSign⟩ ⟨Nat.le_of_ble_eq_true rfl, Nat.le_of_ble_eq_true rfl⟩ ⟨rfl, rfl⟩ rfl rfl rfl (Nat.le_of_ble_eq_true rfl) ?_
  refine AR.if_eq (pc := 65) (tgt := 75) dX6_readSpeaker_65 (by decide) (fun c2 => ?_) (fun c2 => ?_)
  · replace h := ite_t c2 h
    refine AR.iconst (pc := 75) (v := 0) dX6_readSpeaker_75 (by decide) ?_
    exact AR.zret (pc := 76) rfl (Or.inl rfl) dX6_readSpeaker_76 (hrI (Option.some.inj h))
  · replace h := ite_f c2 h
    refine AR.aload_n (pc := 68) (j := 0) dX6_readSpeaker_68 rfl rfl ?_
    obtain ⟨r3, h3, h⟩ := bd_some h
    refine AR.callV (pc := 69) (As := []) (st := []) (ci := 6) dX6_readSpeaker_69 ⟨cd_X6_readWord, im_X6_readWord, se_X6_readWord, ini_X6⟩ ml_X6_67 (A6_readWord (r1.2) _ h3) ⟨rfl, pd_X6_readWord⟩ ⟨Nat.le_of_ble_eq_true rfl, Nat.le_of_ble_eq_true rfl⟩ ⟨rfl, rfl⟩ rfl rfl rfl (Nat.le_of_ble_eq_true rfl) ?_
    refine AR.if_ne (pc := 72) (tgt := 77) dX6_readSpeaker_72 (by decide) (fun c4 => ?_) (fun c4 => ?_)
    · replace h := ite_f c4 h
      refine AR.iinc (pc := 77) (j := 1) (v := (x2 + 1)) (L2 := [(2, .int (x2 + 1)), (0, .ref 19)]) dX6_readSpeaker_77 rfl rfl (by decide) rfl ?_
      refine AR.goto (pc := 80) (tgt := 39) dX6_readSpeaker_80 (by decide) ?_
      exact AR.pick [1, 0] rfl (hk39 ((x2 + 1), r3.2) r h)
    · replace h := ite_t c4 h
      refine AR.iconst (pc := 75) (v := 0) dX6_readSpeaker_75 (by decide) ?_
      exact AR.zret (pc := 76) rfl (Or.inl rfl) dX6_readSpeaker_76 (hrI (Option.some.inj h))
set_option maxHeartbeats 4000000 in
set_option maxRecDepth 100000 in
theorem A6_readSpeaker_39_b {l : Launch} (k39 : Int32 × HS → Option (Int32 × HS)) (x2 : Int32) (hk39 : ∀ (p : Int32 × HS) (r : Int32 × HS), k39 p = some r → AR l RX6 cX6_readSpeaker 3 (some .boolean) (wsU yX6_readSpeaker cX6_readSpeaker 3 (some .boolean)) rm6_readSpeaker SC 39 [(0, .ref 19), (2, .int (p.1))] [] p.2 (some (.int r.1), r.2)) (σ : HS) (r : Int32 × HS) (h : f6_readSpeaker_39_b k39 x2 σ = some r) : AR l RX6 cX6_readSpeaker 3 (some .boolean) (wsU yX6_readSpeaker cX6_readSpeaker 3 (some .boolean)) rm6_readSpeaker SC 39 [(0, .ref 19), (2, .int x2)] [] σ (some (.int r.1), r.2) := by
  unfold f6_readSpeaker_39_b at h
  refine AR.iload_n (pc := 39) (j := 1) dX6_readSpeaker_39 rfl rfl ?_
  refine AR.iconst (pc := 40) (v := 3) dX6_readSpeaker_40 (by decide) ?_
  refine AR.icmp_ge (pc := 41) (tgt := 83) dX6_readSpeaker_41 (by decide) (fun c1 => ?_) (fun c1 => ?_)
  · replace h := ite_t c1 h
    refine AR.iconst (pc := 83) (v := 1) dX6_readSpeaker_83 (by decide) ?_
    exact AR.zret (pc := 84) rfl (Or.inr rfl) dX6_readSpeaker_84 (hrI (Option.some.inj h))
  · replace h := ite_f c1 h
    refine AR.iload_n (pc := 44) (j := 1) dX6_readSpeaker_44 rfl rfl ?_
    refine AR.if_le (pc := 45) (tgt := 59) dX6_readSpeaker_45 (by decide) (fun c2 => ?_) (fun c2 => ?_)
    · replace h := ite_t c2 h
      exact AR.pick [0, 1] rfl (A6_readSpeaker_59 k39 x2 hk39 σ r h)
    · replace h := ite_f c2 h
      refine AR.aload_n (pc := 48) (j := 0) dX6_readSpeaker_48 rfl rfl ?_
      refine AR.bipush (pc := 49) (v := 119) dX6_readSpeaker_49 (by decide) ?_
      obtain ⟨r3, h3, h⟩ := bd_some h
      refine AR.callV (pc := 51) (As := [.int 119]) (st := []) (ci := 6) dX6_readSpeaker_51 ⟨cd_X6_isNext, im_X6_isNext, se_X6_isNext, ini_X6⟩ ml_X6_64 (A6_isNext 119 σ _ h3) ⟨rfl, pd_X6_isNext⟩ ⟨Nat.le_of_ble_eq_true rfl, Nat.le_of_ble_eq_true rfl⟩ ⟨rfl, rfl⟩ rfl rfl rfl (Nat.le_of_ble_eq_true rfl) ?_
      refine AR.if_ne (pc := 54) (tgt := 59) dX6_readSpeaker_54 (by decide) (fun c4 => ?_) (fun c4 => ?_)
      · replace h := ite_f c4 h
        exact AR.pick [0, 1] rfl (A6_readSpeaker_59 k39 x2 hk39 (r3.2) r h)
      · replace h := ite_t c4 h
        refine AR.iconst (pc := 57) (v := 1) dX6_readSpeaker_57 (by decide) ?_
        exact AR.zret (pc := 58) rfl (Or.inr rfl) dX6_readSpeaker_58 (hrI (Option.some.inj h))
theorem A6_readSpeaker_39 {l : Launch} (p : Int32 × HS) (r : Int32 × HS) (h : f6_readSpeaker_39 p = some r) : AR l RX6 cX6_readSpeaker 3 (some .boolean) (wsU yX6_readSpeaker cX6_readSpeaker 3 (some .boolean)) rm6_readSpeaker SC 39 [(0, .ref 19), (2, .int (p.1))] [] p.2 (some (.int r.1), r.2) := by
  unfold f6_readSpeaker_39 at h
  exact wloop_run (body := fun k39 p => f6_readSpeaker_39_b k39 p.1 p.2) (Q := fun p r => AR l RX6 cX6_readSpeaker 3 (some .boolean) (wsU yX6_readSpeaker cX6_readSpeaker 3 (some .boolean)) rm6_readSpeaker SC 39 [(0, .ref 19), (2, .int (p.1))] [] p.2 (some (.int r.1), r.2)) (fun k39 hk39 p r h => A6_readSpeaker_39_b k39 p.1 hk39 p.2 r h) fuelN p r h
set_option maxHeartbeats 4000000 in
set_option maxRecDepth 100000 in
theorem A6_readSpeaker {l : Launch} (σ : HS) (r : Int32 × HS) (h : f6_readSpeaker σ = some r) : MA l yX6_readSpeaker (wsU yX6_readSpeaker cX6_readSpeaker 3 (some .boolean)) rm6_readSpeaker SC [.ref 19] σ (some (.int r.1), r.2) := by
  refine MA.of (L := [(0, .ref 19)]) pn_X6_readSpeaker rfl (fun _ => Nat.le_of_ble_eq_true rfl) (fun _ => rfl) ?_
  unfold f6_readSpeaker at h
  refine AR.aload_n (pc := 0) (j := 0) dX6_readSpeaker_0 rfl rfl ?_
  obtain ⟨r1, h1, h⟩ := bd_some h
  refine AR.callV (pc := 1) (As := []) (st := []) (ci := 6) dX6_readSpeaker_1 ⟨cd_X6_kindOfSign, im_X6_kindOfSign, se_X6_kindOfSign, ini_X6⟩ ml_X6_57 (A6_kindOfSign σ _ h1) ⟨rfl, pd_X6_kindOfSign⟩ ⟨Nat.le_of_ble_eq_true rfl, Nat.le_of_ble_eq_true rfl⟩ ⟨rfl, rfl⟩ rfl rfl rfl (Nat.le_of_ble_eq_true rfl) ?_
  refine AR.istore_n (pc := 4) (L2 := [(1, .int (r1.1)), (0, .ref 19)]) dX6_readSpeaker_4 rfl (by decide) rfl ?_
  refine AR.iload_n (pc := 5) (j := 0) dX6_readSpeaker_5 rfl rfl ?_
  refine AR.if_ge (pc := 6) (tgt := 19) dX6_readSpeaker_6 (by decide) (fun c2 => ?_) (fun c2 => ?_)
  · replace h := ite_t c2 h
    refine AR.aload_n (pc := 19) (j := 1) dX6_readSpeaker_19 rfl rfl ?_
    refine AR.dup (pc := 20) dX6_readSpeaker_20 rfl ?_
    refine AR.getf (pc := 21) (ci := 6) (j := 4) (d := 0) (v := .int ((r1.2).1 19 4)) (T := TX6) dX6_readSpeaker_21 rfl rfl rfl (by decide) (fun w hw => wsU_in (uw_X6 w hw)) (wsU_in fl_X6_18) rfl ?_
    refine AR.iconst (pc := 24) (v := 1) dX6_readSpeaker_24 (by decide) ?_
    refine AR.iadd (pc := 25) dX6_readSpeaker_25 ?_
    refine AR.putI (pc := 26) (ci := 6) (j := 4) (T := TX6) (ty0 := tyX6) (ty := .int) dX6_readSpeaker_26 rfl rfl rfl (by decide) (fun w hw => wsU_in (uw_X6 w hw)) tyX6_ok nmX6 (wsU_in fl_X6_18) rfl (by decide +kernel) rfl rfl ?_
    refine AR.aload_n (pc := 29) (j := 1) dX6_readSpeaker_29 rfl rfl ?_
    refine AR.getf (pc := 30) (ci := 6) (j := 1) (d := 12 + 2) (v := .ref 12) (T := TX6) dX6_readSpeaker_30 rfl rfl rfl (by decide) (fun w hw => wsU_in (uw_X6 w hw)) (wsU_in fl_X6_28) rfl ?_
    refine AR.iload_n (pc := 33) (j := 0) dX6_readSpeaker_33 rfl rfl ?_
    obtain ⟨r3, h3, h⟩ := bd_some h
    refine AR.callVN (pc := 34) (As := [.int (r1.1)]) (st := []) (ci := 4) dX6_readSpeaker_34 ⟨cd_X4_addSpeaker, im_X4_addSpeaker, se_X4_addSpeaker, ini_X4⟩ mn_X6_60 (A4_addSpeaker 12 ppl12 (r1.1) (uI (r1.2) 19 4 (((r1.2).1 19 4) + 1)) _ h3) ⟨rfl, pd_X4_addSpeaker⟩ ⟨Nat.le_of_ble_eq_true rfl, Nat.le_of_ble_eq_true rfl⟩ ⟨rfl, rfl⟩ rfl rfl rfl (Nat.le_of_ble_eq_true rfl) ?_
    refine AR.iconst (pc := 37) (v := 0) dX6_readSpeaker_37 (by decide) ?_
    refine AR.istore_n (pc := 38) (L2 := [(2, .int 0), (1, .int (r1.1)), (0, .ref 19)]) dX6_readSpeaker_38 rfl (by decide) rfl ?_
    exact AR.pick [2, 0] rfl (A6_readSpeaker_39 (0, r3) r h)
  · replace h := ite_f c2 h
    refine AR.aload_n (pc := 9) (j := 1) dX6_readSpeaker_9 rfl rfl ?_
    refine AR.aload_n (pc := 10) (j := 1) dX6_readSpeaker_10 rfl rfl ?_
    refine AR.getf (pc := 11) (ci := 6) (j := 4) (d := 0) (v := .int ((r1.2).1 19 4)) (T := TX6) dX6_readSpeaker_11 rfl rfl rfl (by decide) (fun w hw => wsU_in (uw_X6 w hw)) (wsU_in fl_X6_18) rfl ?_
    refine AR.putI (pc := 14) (ci := 6) (j := 5) (T := TX6) (ty0 := tyX6) (ty := .int) dX6_readSpeaker_14 rfl rfl rfl (by decide) (fun w hw => wsU_in (uw_X6 w hw)) tyX6_ok nmX6 (wsU_in fl_X6_21) rfl (by decide +kernel) rfl rfl ?_
    refine AR.iconst (pc := 17) (v := 0) dX6_readSpeaker_17 (by decide) ?_
    exact AR.zret (pc := 18) rfl (Or.inl rfl) dX6_readSpeaker_18 (hrI (Option.some.inj h))
