/-! THE CLAIM OUT OF ONE WALK OF THE LAW'S BODY. Your part is whole_start (and what it stands on); all else here is the same for every law, but numbers. -/
def R_law : String := "JarCouncilLaw"
def lw_P (b : Addr) (xs : List Int32) (args : Array Value) (s : State) : Prop := args = #[.ref b] ∧ s.IntsAt b xs ∧ xs.length ≤ 3072 ∧ (Jvm.Cond.and given_1 narrow_1).before args s = true
def lw_Q (_ : Array Value) (s : State) (o : Outcome) (t : State) : Prop := o = .returned (some (.int 1)) ∧ Framed s o t [] 72 10389
def lw_Z (below : List Frame) (a : Array Value) (s : State) : State → Prop := fun t => ∃ o, t.status = .running ∧ Ended t below o ∧ lw_Q a s o t
/-- the law's own end, with 1 on the stack, nothing written that was there before, its room as the claim has it -/
theorem lw_ret {p : Program} {l : Launch} {e : Env} {s : State} {m : MethodId} {below : List Frame} {meth : Method} {c : Code} {b : Nat} (hx : p.tables.exec = Jvm.exec) (hb : c.code = code) (hr : meth.sig.returnType = ret) (hlocks : meth.locks = false) {pc : Nat} {H : Heap} {ls : Array Slot} (hdg : decode code pc = .ok (.ireturn, 1)) : W p l e room_1 s m #[Value.ref b] below meth c H [] 72 10389 (lw_Z below #[Value.ref b] s) (F0 m pc ls [.int 1]) := by
  intro T hT X
  obtain ⟨fs, hret, hrun, hended, hW, hframe⟩ := X.leave (v := some (.int 1)) (hlocks := hlocks) (fun h => by rw [hr] at h; cases h)
  have hmeth' : T.vm.method? m = some meth := X.method'
  refine ⟨T.setFrames fs, ?_, .returned (some (.int 1)), hrun, hended, rfl, ⟨_, rfl⟩, hW, hframe⟩
  jvm_step X.here [X.here.top, hx, hb, hdg, hmeth', hr, ret, narrow_b1]
  (try refine ⟨rfl, ?_⟩); (try refine ⟨rfl, ?_⟩)
  first | (intro acts; rw [hret _ acts rfl rfl rfl]) | rw [hret _ _ rfl rfl rfl]
  exact Steps.refl _
/-- what holds at the law's entry: the machine, the code, the tables' words (any of lw_tbl by 'hts w (by decide +kernel)'), the script of L ints xs at the cell b, what the Statement gives of the start (any of its parts by flat_of_before) -/
def lw_At (p : Program) (s : State) (m : MethodId) (meth : Method) (c : Code) (b L : Nat) (xs : Nat → Int32) : Prop :=
  p.tables.exec = Jvm.exec ∧ c.code = code ∧ meth.sig.returnType = ret ∧ c.maxLocals = 4 ∧ s.vm.findClass R_law = some m.cls ∧ (∀ w ∈ lw_tbl, w.before #[Value.ref b] s = true) ∧ va_X b L xs s s.heap ∧ b < s.heap.size ∧ meth.locks = false ∧ (Jvm.Cond.and given_1 narrow_1).before #[Value.ref b] s = true
section LWc
variable {p : Program} {l : Launch} {e : Env} {R : Room} {s : State} {m : MethodId} {args : Array Value} {below : List Frame} {meth : Method} {c : Code} {H : Heap} {locs : List Loc} {cells slots : Nat} {Q : State → Prop}
variable {pc : Nat} {ls : Array Slot} {rest st0 : List Value} {A0 A1 : Nat → Prop} {H0 : Heap} {free : Addr → Prop} {D : va_G} {w1 : va_W} {v : Option Value}
theorem lw_cont (hr : va_Run p l e R s m args below meth c H locs cells slots 0 0 (F0 m pc ls st0) rest (fun st oc t => (oc = .returned v ∧ va_P D vwCl w1 t.heap) ∧ va_F A1 st t) free) (hS : va_S A0 H0 H locs) (hA : ∀ q, q < H.size → A1 q → A0 q) (hf : ∀ q, free q → A0 q)
    (kk : ∀ (H1 : Heap) (locs1 : List Loc), va_P D vwCl w1 H1 → (∀ q : Nat, q < H.size → ¬ A1 q → H1[q]? = H[q]?) → va_S A0 H0 H1 locs1 → W p l e R s m args below meth c H1 locs1 cells slots Q (F0 m (pc + 3) ls (v.toList ++ rest))) : W p l e R s m args below meth c H locs cells slots Q (F0 m pc ls st0) := by
  intro T hT X
  obtain ⟨v2, st₀, t, T', L, h0, X', hL, e1, e2, ⟨⟨hv, hb⟩, hz, hk⟩, st⟩ := hr T hT X
  cases hv
  rw [h0] at hz hk
  rw [← e1] at hb
  obtain ⟨t2, a1, b1⟩ := kk T'.heap (locs ++ L) hb (fun q h1 h2 => by rw [e1]; exact hk q h1 h2)
    ⟨Nat.le_trans hS.1 (by rw [e1]; exact hz), fun q h1 h2 => by rw [e1, hk q (Nat.lt_of_lt_of_le h1 hS.1) (fun z => h2 (hA q (Nat.lt_of_lt_of_le h1 hS.1) z))]; exact hS.2.1 q h1 h2, fun q hq => by
      rcases List.mem_append.mp hq with h | h
      · exact hS.2.2 q h
      · exact hf _ (hL q h)⟩ T' rfl X'
  exact ⟨t2, st t2 a1, b1⟩
theorem calL_good {y : MethodName} {b2 : ByteArray} {nL2 : Nat} {ret2 : Option FieldType} {own : String} {idx : Nat} (h : CalV y b2 nL2 ret2) (hl : Cond.methodLink own idx y ∈ wsG) : GoodIn lw_tbl (wsV own idx y.cls y (wsU y b2 nL2 ret2)) := by
  intro w hw
  have key : w ∈ wsG := by
    rcases List.mem_append.mp hw with hw | hw
    · simp only [List.mem_cons, List.not_mem_nil, or_false] at hw
      rcases hw with rfl | rfl | rfl | rfl
      · exact hl
      · exact h.2.1
      · exact h.2.2.1
      · exact h.2.2.2
    · rcases List.mem_cons.mp hw with rfl | h2
      · exact h.1
      · exact h2
  exact ⟨inG_tbl w key, wsL_ok key⟩
theorem cinit_good {y : MethodName} {b2 : ByteArray} {nL2 : Nat} {ret2 : Option FieldType} (h : Cond.code y b2 nL2 ret2 ∈ wsG) : GoodIn lw_tbl (wsU y b2 nL2 ret2) := by
  intro w hw
  have key : w ∈ wsG := by
    rcases List.mem_cons.mp hw with rfl | h2
    · exact h
    · exact h2
  exact ⟨inG_tbl w key, wsL_ok key⟩
/-- two worlds beside each other -/
def Apart2 (S1 S2 : Shp) (cI cL : ClassId) (ad1 ad2 : Nat → Nat) : Prop := ∀ (i j : Nat) (x y : Nat × va_E), (wd S1 cI cL ad1 zHS)[i]? = some x → (wd S2 cI cL ad2 zHS)[j]? = some y → x.1 ≠ y.1
theorem wd_kept {S1 S2 : Shp} {cI cL : ClassId} {ad1 ad2 : Nat → Nat} {τ : HS} {H1 : Heap} (hap : Apart2 S1 S2 cI cL ad1 ad2) (hP : va_P D vwCl (wd S2 cI cL ad2 τ) H) (hk : ∀ q : Nat, q < H.size → ¬ va_A (wd S1 cI cL ad1 zHS) H.size q → H1[q]? = H[q]?) : va_P D vwCl (wd S2 cI cL ad2 τ) H1 := by
  intro k q hq
  have hat := hP k q hq
  refine hat.kept (hk q.1 hat.lt ?_)
  rintro (⟨i, e, hi⟩ | h)
  · have h2 : ∃ y, (wd S2 cI cL ad2 zHS)[k]? = some y ∧ y.1 = q.1 := by
      rw [wd_get] at hq ⊢
      cases hS : S2[k]? with
      | none => rw [hS] at hq; cases hq
      | some d => rw [hS] at hq; cases hq; exact ⟨_, rfl, rfl⟩
    obtain ⟨y, hy, e2⟩ := h2
    exact hap i k (q.1, e) y hi hy e2.symm
  · exact absurd hat.lt (by omega)
theorem cblind2 {As : List Value} {S : Shp} {σ : HS} {D : va_G} {cI cL : ClassId} {ad : Nat → Nat} {sz : Nat} : FrameBlind (va_Pc As (fun U => U.heap.size = sz ∧ va_P D vwCl (wd S cI cL ad σ) U.heap ∧ va_K D vwCl [(cI, .int), (cL, .long)] U ∧ va_D (fun _ => True) (wd S cI cL ad zHS) ∧ NW U)) := by
  intro a U g mk q
  obtain ⟨q0, q1, qP, qK, qD, qN⟩ := q
  exact ⟨q0, q1, qP, va_K.moved (u := U) (U := U.calling g mk a) (Vm.Alike.refl U.vm) qK, qD, NW.same (u := U) (U := U.calling g mk a) rfl qN⟩
theorem lw_call {S1 S2 : Shp} {cI cL : ClassId} {ad1 ad2 : Nat → Nat} {σ σ1 τ : HS} {y : MethodName} {b2 : ByteArray} {nL2 : Nat} {ret2 : Option FieldType} {idx nL ci n N : Nat} {ds : List Nat} {Cn : String} {T : u_T} {rm : Room} {As : List Value} {v : Option Value} {stk : List Value}
    (hx : p.tables.exec = Jvm.exec) (hb : c.code = code) (hml : c.maxLocals = nL) (hown : s.vm.findClass RL = some m.cls) (hts : ∀ w ∈ lw_tbl, w.before args s = true) (hN : NW s) (hK : va_K D vwCl [(cI, .int), (cL, .long)] s)
    (hD1 : va_D A0 (wd S1 cI cL ad1 zHS)) (hap : Apart2 S1 S2 cI cL ad1 ad2) (hA : ∀ q, s.heap.size ≤ q → A0 q)
    (hP1 : va_P D vwCl (wd S1 cI cL ad1 σ) H) (hP2 : va_P D vwCl (wd S2 cI cL ad2 τ) H) (hS : va_S A0 s.heap H locs) (hl : ls.size = nL)
    (hd : decode code pc = .ok (.invokevirtual idx, 3)) (hcal : CalV y b2 nL2 ret2) (hlk : Cond.methodLink RL idx y ∈ wsG) (hM : MA l y (wsU y b2 nL2 ret2) rm S1 (.ref 0 :: As) σ (v, σ1)) (hAs : As.map (mV ad1) = As) (hv : v.map (mV ad1) = v)
    (hcl : y.cls = Cn ∧ y.cls ≠ "java/lang/invoke/MethodHandle" ∧ y.cls ≠ "java/lang/invoke/VarHandle" ∧ (parseMethodDescriptor y.desc).map (fun d => d.parameters.length) = some As.length)
    (hR : rm.frames + 1 ≤ R.frames ∧ 8 + (nL2 + 11) + rm.locals ≤ R.locals) (hz : rm.cells = 0 ∧ rm.slots = 0) (hrm : cells ≤ R.cells ∧ slots ≤ R.slots) (hb0 : S1[0]? = some (ci + 2, n, ds)) (hc : vwCl[ci]? = some (Cn, T, N)) (hst : stk = As.reverse ++ .ref (ad1 0) :: rest) (hcat : (rest.map fun v => v.category).sum ≤ 8)
    (kk : ∀ (H1 : Heap) (locs1 : List Loc), va_P D vwCl (wd S1 cI cL ad1 σ1) H1 → va_P D vwCl (wd S2 cI cL ad2 τ) H1 → va_S A0 s.heap H1 locs1 → W p l e R s m args below meth c H1 locs1 cells slots Q (F0 m (pc + 3) ls (v.toList ++ rest))) : W p l e R s m args below meth c H locs cells slots Q (F0 m pc ls stk) := by
  subst hst
  obtain ⟨hCn, hcl⟩ := hcl
  subst hCn
  have hM2 := hM D cI cL ad1 H.size
  rw [List.map_cons, hAs, show mV ad1 (.ref 0) = .ref (ad1 0) from rfl, hv] at hM2
  refine lw_cont (va_runV (As := As) (rest := rest) (g := F0 m pc ls (As.reverse ++ .ref (ad1 0) :: rest)) ⟨hx, hb, hml, hown, hts⟩ hM2 (cwV As.length hts (calL_good hcal hlk) rfl hz.1 hz.2 ⟨rfl, hcl⟩ hR)
    ⟨cblind2, va_recv hK hP1 hc (wd_at hb0), fun U hU hW => ⟨rfl, by rw [hU], by rw [hU]; exact hP1, va_K.moved hW.alike hK, hD1.weaken (fun _ _ _ _ => trivial), NW.warm hW hN⟩⟩ rfl rfl hl rfl (lv_room hcat) hd ⟨by omega, by omega⟩)
    hS (fun q _ z => wd_lt hD1 hS hA q z) (wd_lt hD1 hS hA) (fun H1 locs1 hP1' hk hS1 => ?_)
  exact kk H1 locs1 hP1' (wd_kept hap hP2 hk) hS1
end LWc
theorem tsw32 {x : Int32} (h0 : ¬ x = 0) (h1 : ¬ x = 1) (h2 : ¬ x = 2) (h3 : ¬ x = 3) (h4 : ¬ x = 4) (h5 : ¬ x = 5) (h6 : ¬ x = 6) (h7 : ¬ x = 7) (h8 : ¬ x = 8) (h9 : ¬ x = 9) (h10 : ¬ x = 10) (h11 : ¬ x = 11) (h12 : ¬ x = 12) (h13 : ¬ x = 13) (h14 : ¬ x = 14) (h15 : ¬ x = 15) (h16 : ¬ x = 16) (h17 : ¬ x = 17) (h18 : ¬ x = 18) (h19 : ¬ x = 19) (h20 : ¬ x = 20) (h21 : ¬ x = 21) (h22 : ¬ x = 22) (h23 : ¬ x = 23) (h24 : ¬ x = 24) (h25 : ¬ x = 25) (h26 : ¬ x = 26) (h27 : ¬ x = 27) (h28 : ¬ x = 28) (h29 : ¬ x = 29) (h30 : ¬ x = 30) (h31 : ¬ x = 31) : x.toInt < 0 ∨ 31 < x.toInt := by
  have a0 : x.toInt ≠ 0 := i32_ne (k := 0) (fun e => h0 (e.trans (by decide))) (by decide) (by decide)
  have a1 : x.toInt ≠ 1 := i32_ne (k := 1) (fun e => h1 (e.trans (by decide))) (by decide) (by decide)
  have a2 : x.toInt ≠ 2 := i32_ne (k := 2) (fun e => h2 (e.trans (by decide))) (by decide) (by decide)
  have a3 : x.toInt ≠ 3 := i32_ne (k := 3) (fun e => h3 (e.trans (by decide))) (by decide) (by decide)
  have a4 : x.toInt ≠ 4 := i32_ne (k := 4) (fun e => h4 (e.trans (by decide))) (by decide) (by decide)
  have a5 : x.toInt ≠ 5 := i32_ne (k := 5) (fun e => h5 (e.trans (by decide))) (by decide) (by decide)
  have a6 : x.toInt ≠ 6 := i32_ne (k := 6) (fun e => h6 (e.trans (by decide))) (by decide) (by decide)
  have a7 : x.toInt ≠ 7 := i32_ne (k := 7) (fun e => h7 (e.trans (by decide))) (by decide) (by decide)
  have a8 : x.toInt ≠ 8 := i32_ne (k := 8) (fun e => h8 (e.trans (by decide))) (by decide) (by decide)
  have a9 : x.toInt ≠ 9 := i32_ne (k := 9) (fun e => h9 (e.trans (by decide))) (by decide) (by decide)
  have a10 : x.toInt ≠ 10 := i32_ne (k := 10) (fun e => h10 (e.trans (by decide))) (by decide) (by decide)
  have a11 : x.toInt ≠ 11 := i32_ne (k := 11) (fun e => h11 (e.trans (by decide))) (by decide) (by decide)
  have a12 : x.toInt ≠ 12 := i32_ne (k := 12) (fun e => h12 (e.trans (by decide))) (by decide) (by decide)
  have a13 : x.toInt ≠ 13 := i32_ne (k := 13) (fun e => h13 (e.trans (by decide))) (by decide) (by decide)
  have a14 : x.toInt ≠ 14 := i32_ne (k := 14) (fun e => h14 (e.trans (by decide))) (by decide) (by decide)
  have a15 : x.toInt ≠ 15 := i32_ne (k := 15) (fun e => h15 (e.trans (by decide))) (by decide) (by decide)
  have a16 : x.toInt ≠ 16 := i32_ne (k := 16) (fun e => h16 (e.trans (by decide))) (by decide) (by decide)
  have a17 : x.toInt ≠ 17 := i32_ne (k := 17) (fun e => h17 (e.trans (by decide))) (by decide) (by decide)
  have a18 : x.toInt ≠ 18 := i32_ne (k := 18) (fun e => h18 (e.trans (by decide))) (by decide) (by decide)
  have a19 : x.toInt ≠ 19 := i32_ne (k := 19) (fun e => h19 (e.trans (by decide))) (by decide) (by decide)
  have a20 : x.toInt ≠ 20 := i32_ne (k := 20) (fun e => h20 (e.trans (by decide))) (by decide) (by decide)
  have a21 : x.toInt ≠ 21 := i32_ne (k := 21) (fun e => h21 (e.trans (by decide))) (by decide) (by decide)
  have a22 : x.toInt ≠ 22 := i32_ne (k := 22) (fun e => h22 (e.trans (by decide))) (by decide) (by decide)
  have a23 : x.toInt ≠ 23 := i32_ne (k := 23) (fun e => h23 (e.trans (by decide))) (by decide) (by decide)
  have a24 : x.toInt ≠ 24 := i32_ne (k := 24) (fun e => h24 (e.trans (by decide))) (by decide) (by decide)
  have a25 : x.toInt ≠ 25 := i32_ne (k := 25) (fun e => h25 (e.trans (by decide))) (by decide) (by decide)
  have a26 : x.toInt ≠ 26 := i32_ne (k := 26) (fun e => h26 (e.trans (by decide))) (by decide) (by decide)
  have a27 : x.toInt ≠ 27 := i32_ne (k := 27) (fun e => h27 (e.trans (by decide))) (by decide) (by decide)
  have a28 : x.toInt ≠ 28 := i32_ne (k := 28) (fun e => h28 (e.trans (by decide))) (by decide) (by decide)
  have a29 : x.toInt ≠ 29 := i32_ne (k := 29) (fun e => h29 (e.trans (by decide))) (by decide) (by decide)
  have a30 : x.toInt ≠ 30 := i32_ne (k := 30) (fun e => h30 (e.trans (by decide))) (by decide) (by decide)
  have a31 : x.toInt ≠ 31 := i32_ne (k := 31) (fun e => h31 (e.trans (by decide))) (by decide) (by decide)
  omega
set_option maxHeartbeats 4000000 in
set_option maxRecDepth 100000 in
theorem law_case0 {p : Program} {l : Launch} {e : Env} {s : State} {m : MethodId} {below : List Frame} {meth : Method} {c : Code} {D : va_G} {cI cL : ClassId} {adC adM : Nat → Nat} {b L : Nat} {xs : Nat → Int32} (hx : p.tables.exec = Jvm.exec) (hb : c.code = code) (hml : c.maxLocals = 4) (hown : s.vm.findClass RL = some m.cls) (hts : ∀ w ∈ lw_tbl, w.before #[Value.ref b] s = true) (hN : NW s) (hK : va_K D vwCl [(cI, .int), (cL, .long)] s) (hX : va_X b L xs s s.heap) (hbl : b < s.heap.size)
    (hDC : va_D (fun q : Nat => s.heap.size ≤ q) (wd SC cI cL adC zHS)) (hDM : va_D (fun q : Nat => s.heap.size ≤ q) (wd SM cI cL adM zHS)) (hap : Apart2 SC SM cI cL adC adM) (hap2 : Apart2 SM SC cI cL adM adC)
    {Q : State → Prop} (j : Nat) (hj : j < 512) (σ τ : HS) (hI : Inv j σ τ) (H : Heap) (locs : List Loc) (hPC : va_P D vwCl (wd SC cI cL adC σ) H) (hPM : va_P D vwCl (wd SM cI cL adM τ) H) (hS : va_S (fun q : Nat => s.heap.size ≤ q) s.heap H locs) (x3 a1 a2 a3 a4 a5 : Int32) (v1 : vp_in (x3 + 1) L) (v2 : vp_in (x3 + 2) L) (v3 : vp_in (x3 + 3) L) (v4 : vp_in (x3 + 4) L) (v5 : vp_in (x3 + 5) L) (e1 : xs (x3 + 1).toNatClampNeg = a1) (e2 : xs (x3 + 2).toNatClampNeg = a2) (e3 : xs (x3 + 3).toNatClampNeg = a3) (e4 : xs (x3 + 4).toNatClampNeg = a4) (e5 : xs (x3 + 5).toNatClampNeg = a5) (ls : Array Slot) (hl : lv_has ls 4 [(0, .ref b), (1, .ref (adC 0)), (2, .ref (adM 0)), (3, .int x3)])
    (hend : ∀ (σ1 τ1 : HS), Inv (j + 1) σ1 τ1 → ∀ (H : Heap) (locs : List Loc), va_P D vwCl (wd SC cI cL adC σ1) H → va_P D vwCl (wd SM cI cL adM τ1) H → va_S (fun q : Nat => s.heap.size ≤ q) s.heap H locs → W p l e room_1 s m #[Value.ref b] below meth c H locs 72 10389 Q (F0 m 1256 ls [])) :
    W p l e room_1 s m #[Value.ref b] below meth c H locs 72 10389 Q (F0 m 176 ls []) := by
  have hA : ∀ q : Nat, s.heap.size ≤ q → (fun q : Nat => s.heap.size ≤ q) q := fun _ h => h
  have hbA : ¬ (fun q : Nat => s.heap.size ≤ q) b := Nat.not_le.mpr hbl
  refine lv_aload_n (pc := 176) hx hb dL_law_176 rfl (lv_at hl 1 rfl) ?_
  refine lv_aload_n (pc := 177) hx hb dL_law_177 rfl (lv_at hl 0 rfl) ?_
  refine lv_iload_n (pc := 178) hx hb dL_law_178 rfl (lv_at hl 3 rfl) ?_
  refine lv_iconst (pc := 179) (v := 1) hx hb dL_law_179 (by decide) ?_
  refine lv_iadd (pc := 180) hx hb dL_law_180 ?_
  refine va_sld (pc := 181) hx hb hX hbl hbA hS v1 dL_law_181 ?_
  rw [e1]
  refine lv_aload_n (pc := 182) hx hb dL_law_182 rfl (lv_at hl 0 rfl) ?_
  refine lv_iload_n (pc := 183) hx hb dL_law_183 rfl (lv_at hl 3 rfl) ?_
  refine lv_iconst (pc := 184) (v := 2) hx hb dL_law_184 (by decide) ?_
  refine lv_iadd (pc := 185) hx hb dL_law_185 ?_
  refine va_sld (pc := 186) hx hb hX hbl hbA hS v2 dL_law_186 ?_
  rw [e2]
  refine lv_aload_n (pc := 187) hx hb dL_law_187 rfl (lv_at hl 0 rfl) ?_
  refine lv_iload_n (pc := 188) hx hb dL_law_188 rfl (lv_at hl 3 rfl) ?_
  refine lv_iconst (pc := 189) (v := 3) hx hb dL_law_189 (by decide) ?_
  refine lv_iadd (pc := 190) hx hb dL_law_190 ?_
  refine va_sld (pc := 191) hx hb hX hbl hbA hS v3 dL_law_191 ?_
  rw [e3]
  refine lv_aload_n (pc := 192) hx hb dL_law_192 rfl (lv_at hl 0 rfl) ?_
  refine lv_iload_n (pc := 193) hx hb dL_law_193 rfl (lv_at hl 3 rfl) ?_
  refine lv_iconst (pc := 194) (v := 4) hx hb dL_law_194 (by decide) ?_
  refine lv_iadd (pc := 195) hx hb dL_law_195 ?_
  refine va_sld (pc := 196) hx hb hX hbl hbA hS v4 dL_law_196 ?_
  rw [e4]
  obtain ⟨r, σ1, τ1, h8, h9, hI1⟩ := op_council j σ τ a1 a2 a3 a4 hI (by omega)
  refine lw_call (S1 := SC) (S2 := SM) (ad1 := adC) (ad2 := adM) (σ := σ) (σ1 := σ1) (τ := τ) (As := [.int a1, .int a2, .int a3, .int a4]) (v := (some (.int r))) (rest := []) (ci := 8) hx hb hml hown hts hN hK hDC hap hA hPC hPM hS hl.1 dL_law_197 ⟨cd_X8_council, im_X8_council, se_X8_council, ini_X8⟩ ml_L_13 (A8_council a1 a2 a3 a4 σ _ h8) rfl rfl ⟨rfl, pd_X8_council⟩ ⟨Nat.le_of_ble_eq_true rfl, Nat.le_of_ble_eq_true rfl⟩ ⟨rfl, rfl⟩ ⟨Nat.le_of_ble_eq_true rfl, Nat.le_of_ble_eq_true rfl⟩ rfl rfl rfl (Nat.le_of_ble_eq_true rfl) (fun H locs hPC hPM hS => ?_)
  refine lv_aload_n (pc := 200) hx hb dL_law_200 rfl (lv_at hl 2 rfl) ?_
  refine lv_aload_n (pc := 201) hx hb dL_law_201 rfl (lv_at hl 0 rfl) ?_
  refine lv_iload_n (pc := 202) hx hb dL_law_202 rfl (lv_at hl 3 rfl) ?_
  refine lv_iconst (pc := 203) (v := 1) hx hb dL_law_203 (by decide) ?_
  refine lv_iadd (pc := 204) hx hb dL_law_204 ?_
  refine va_sld (pc := 205) hx hb hX hbl hbA hS v1 dL_law_205 ?_
  rw [e1]
  refine lv_aload_n (pc := 206) hx hb dL_law_206 rfl (lv_at hl 0 rfl) ?_
  refine lv_iload_n (pc := 207) hx hb dL_law_207 rfl (lv_at hl 3 rfl) ?_
  refine lv_iconst (pc := 208) (v := 2) hx hb dL_law_208 (by decide) ?_
  refine lv_iadd (pc := 209) hx hb dL_law_209 ?_
  refine va_sld (pc := 210) hx hb hX hbl hbA hS v2 dL_law_210 ?_
  rw [e2]
  refine lv_aload_n (pc := 211) hx hb dL_law_211 rfl (lv_at hl 0 rfl) ?_
  refine lv_iload_n (pc := 212) hx hb dL_law_212 rfl (lv_at hl 3 rfl) ?_
  refine lv_iconst (pc := 213) (v := 3) hx hb dL_law_213 (by decide) ?_
  refine lv_iadd (pc := 214) hx hb dL_law_214 ?_
  refine va_sld (pc := 215) hx hb hX hbl hbA hS v3 dL_law_215 ?_
  rw [e3]
  refine lv_aload_n (pc := 216) hx hb dL_law_216 rfl (lv_at hl 0 rfl) ?_
  refine lv_iload_n (pc := 217) hx hb dL_law_217 rfl (lv_at hl 3 rfl) ?_
  refine lv_iconst (pc := 218) (v := 4) hx hb dL_law_218 (by decide) ?_
  refine lv_iadd (pc := 219) hx hb dL_law_219 ?_
  refine va_sld (pc := 220) hx hb hX hbl hbA hS v4 dL_law_220 ?_
  rw [e4]
  refine lw_call (S1 := SM) (S2 := SC) (ad1 := adM) (ad2 := adC) (σ := τ) (σ1 := τ1) (τ := σ1) (As := [.int a1, .int a2, .int a3, .int a4]) (v := (some (.int r))) (rest := [.int r]) (ci := 9) hx hb hml hown hts hN hK hDM hap2 hA hPM hPC hS hl.1 dL_law_221 ⟨cd_X9_council, im_X9_council, se_X9_council, ini_X9⟩ ml_L_17 (A9_council a1 a2 a3 a4 τ _ h9) rfl rfl ⟨rfl, pd_X9_council⟩ ⟨Nat.le_of_ble_eq_true rfl, Nat.le_of_ble_eq_true rfl⟩ ⟨rfl, rfl⟩ ⟨Nat.le_of_ble_eq_true rfl, Nat.le_of_ble_eq_true rfl⟩ rfl rfl rfl (Nat.le_of_ble_eq_true rfl) (fun H locs hPM hPC hS => ?_)
  refine lv_icmp_eq (pc := 224) (tgt := 1256) hx hb dL_law_224 (by decide) (fun _ => ?_) (fun cj => absurd rfl cj)
  exact hend σ1 τ1 hI1 H locs hPC hPM hS
set_option maxHeartbeats 4000000 in
set_option maxRecDepth 100000 in
theorem law_case1 {p : Program} {l : Launch} {e : Env} {s : State} {m : MethodId} {below : List Frame} {meth : Method} {c : Code} {D : va_G} {cI cL : ClassId} {adC adM : Nat → Nat} {b L : Nat} {xs : Nat → Int32} (hx : p.tables.exec = Jvm.exec) (hb : c.code = code) (hml : c.maxLocals = 4) (hown : s.vm.findClass RL = some m.cls) (hts : ∀ w ∈ lw_tbl, w.before #[Value.ref b] s = true) (hN : NW s) (hK : va_K D vwCl [(cI, .int), (cL, .long)] s) (hX : va_X b L xs s s.heap) (hbl : b < s.heap.size)
    (hDC : va_D (fun q : Nat => s.heap.size ≤ q) (wd SC cI cL adC zHS)) (hDM : va_D (fun q : Nat => s.heap.size ≤ q) (wd SM cI cL adM zHS)) (hap : Apart2 SC SM cI cL adC adM) (hap2 : Apart2 SM SC cI cL adM adC)
    {Q : State → Prop} (j : Nat) (hj : j < 512) (σ τ : HS) (hI : Inv j σ τ) (H : Heap) (locs : List Loc) (hPC : va_P D vwCl (wd SC cI cL adC σ) H) (hPM : va_P D vwCl (wd SM cI cL adM τ) H) (hS : va_S (fun q : Nat => s.heap.size ≤ q) s.heap H locs) (x3 a1 a2 a3 a4 a5 : Int32) (v1 : vp_in (x3 + 1) L) (v2 : vp_in (x3 + 2) L) (v3 : vp_in (x3 + 3) L) (v4 : vp_in (x3 + 4) L) (v5 : vp_in (x3 + 5) L) (e1 : xs (x3 + 1).toNatClampNeg = a1) (e2 : xs (x3 + 2).toNatClampNeg = a2) (e3 : xs (x3 + 3).toNatClampNeg = a3) (e4 : xs (x3 + 4).toNatClampNeg = a4) (e5 : xs (x3 + 5).toNatClampNeg = a5) (ls : Array Slot) (hl : lv_has ls 4 [(0, .ref b), (1, .ref (adC 0)), (2, .ref (adM 0)), (3, .int x3)])
    (hend : ∀ (σ1 τ1 : HS), Inv (j + 1) σ1 τ1 → ∀ (H : Heap) (locs : List Loc), va_P D vwCl (wd SC cI cL adC σ1) H → va_P D vwCl (wd SM cI cL adM τ1) H → va_S (fun q : Nat => s.heap.size ≤ q) s.heap H locs → W p l e room_1 s m #[Value.ref b] below meth c H locs 72 10389 Q (F0 m 1256 ls [])) :
    W p l e room_1 s m #[Value.ref b] below meth c H locs 72 10389 Q (F0 m 229 ls []) := by
  have hA : ∀ q : Nat, s.heap.size ≤ q → (fun q : Nat => s.heap.size ≤ q) q := fun _ h => h
  have hbA : ¬ (fun q : Nat => s.heap.size ≤ q) b := Nat.not_le.mpr hbl
  refine lv_aload_n (pc := 229) hx hb dL_law_229 rfl (lv_at hl 1 rfl) ?_
  refine lv_aload_n (pc := 230) hx hb dL_law_230 rfl (lv_at hl 0 rfl) ?_
  refine lv_iload_n (pc := 231) hx hb dL_law_231 rfl (lv_at hl 3 rfl) ?_
  refine lv_iconst (pc := 232) (v := 1) hx hb dL_law_232 (by decide) ?_
  refine lv_iadd (pc := 233) hx hb dL_law_233 ?_
  refine va_sld (pc := 234) hx hb hX hbl hbA hS v1 dL_law_234 ?_
  rw [e1]
  refine lv_aload_n (pc := 235) hx hb dL_law_235 rfl (lv_at hl 0 rfl) ?_
  refine lv_iload_n (pc := 236) hx hb dL_law_236 rfl (lv_at hl 3 rfl) ?_
  refine lv_iconst (pc := 237) (v := 2) hx hb dL_law_237 (by decide) ?_
  refine lv_iadd (pc := 238) hx hb dL_law_238 ?_
  refine va_sld (pc := 239) hx hb hX hbl hbA hS v2 dL_law_239 ?_
  rw [e2]
  obtain ⟨r, σ1, τ1, h8, h9, hI1⟩ := op_ofSpeaker j σ τ a1 a2 hI (by omega)
  refine lw_call (S1 := SC) (S2 := SM) (ad1 := adC) (ad2 := adM) (σ := σ) (σ1 := σ1) (τ := τ) (As := [.int a1, .int a2]) (v := (some (.int r))) (rest := []) (ci := 8) hx hb hml hown hts hN hK hDC hap hA hPC hPM hS hl.1 dL_law_240 ⟨cd_X8_ofSpeaker, im_X8_ofSpeaker, se_X8_ofSpeaker, ini_X8⟩ ml_L_18 (A8_ofSpeaker a1 a2 σ _ h8) rfl rfl ⟨rfl, pd_X8_ofSpeaker⟩ ⟨Nat.le_of_ble_eq_true rfl, Nat.le_of_ble_eq_true rfl⟩ ⟨rfl, rfl⟩ ⟨Nat.le_of_ble_eq_true rfl, Nat.le_of_ble_eq_true rfl⟩ rfl rfl rfl (Nat.le_of_ble_eq_true rfl) (fun H locs hPC hPM hS => ?_)
  refine lv_aload_n (pc := 243) hx hb dL_law_243 rfl (lv_at hl 2 rfl) ?_
  refine lv_aload_n (pc := 244) hx hb dL_law_244 rfl (lv_at hl 0 rfl) ?_
  refine lv_iload_n (pc := 245) hx hb dL_law_245 rfl (lv_at hl 3 rfl) ?_
  refine lv_iconst (pc := 246) (v := 1) hx hb dL_law_246 (by decide) ?_
  refine lv_iadd (pc := 247) hx hb dL_law_247 ?_
  refine va_sld (pc := 248) hx hb hX hbl hbA hS v1 dL_law_248 ?_
  rw [e1]
  refine lv_aload_n (pc := 249) hx hb dL_law_249 rfl (lv_at hl 0 rfl) ?_
  refine lv_iload_n (pc := 250) hx hb dL_law_250 rfl (lv_at hl 3 rfl) ?_
  refine lv_iconst (pc := 251) (v := 2) hx hb dL_law_251 (by decide) ?_
  refine lv_iadd (pc := 252) hx hb dL_law_252 ?_
  refine va_sld (pc := 253) hx hb hX hbl hbA hS v2 dL_law_253 ?_
  rw [e2]
  refine lw_call (S1 := SM) (S2 := SC) (ad1 := adM) (ad2 := adC) (σ := τ) (σ1 := τ1) (τ := σ1) (As := [.int a1, .int a2]) (v := (some (.int r))) (rest := [.int r]) (ci := 9) hx hb hml hown hts hN hK hDM hap2 hA hPM hPC hS hl.1 dL_law_254 ⟨cd_X9_ofSpeaker, im_X9_ofSpeaker, se_X9_ofSpeaker, ini_X9⟩ ml_L_22 (A9_ofSpeaker a1 a2 τ _ h9) rfl rfl ⟨rfl, pd_X9_ofSpeaker⟩ ⟨Nat.le_of_ble_eq_true rfl, Nat.le_of_ble_eq_true rfl⟩ ⟨rfl, rfl⟩ ⟨Nat.le_of_ble_eq_true rfl, Nat.le_of_ble_eq_true rfl⟩ rfl rfl rfl (Nat.le_of_ble_eq_true rfl) (fun H locs hPM hPC hS => ?_)
  refine lv_icmp_eq (pc := 257) (tgt := 1256) hx hb dL_law_257 (by decide) (fun _ => ?_) (fun cj => absurd rfl cj)
  exact hend σ1 τ1 hI1 H locs hPC hPM hS
set_option maxHeartbeats 4000000 in
set_option maxRecDepth 100000 in
theorem law_case2 {p : Program} {l : Launch} {e : Env} {s : State} {m : MethodId} {below : List Frame} {meth : Method} {c : Code} {D : va_G} {cI cL : ClassId} {adC adM : Nat → Nat} {b L : Nat} {xs : Nat → Int32} (hx : p.tables.exec = Jvm.exec) (hb : c.code = code) (hml : c.maxLocals = 4) (hown : s.vm.findClass RL = some m.cls) (hts : ∀ w ∈ lw_tbl, w.before #[Value.ref b] s = true) (hN : NW s) (hK : va_K D vwCl [(cI, .int), (cL, .long)] s) (hX : va_X b L xs s s.heap) (hbl : b < s.heap.size)
    (hDC : va_D (fun q : Nat => s.heap.size ≤ q) (wd SC cI cL adC zHS)) (hDM : va_D (fun q : Nat => s.heap.size ≤ q) (wd SM cI cL adM zHS)) (hap : Apart2 SC SM cI cL adC adM) (hap2 : Apart2 SM SC cI cL adM adC)
    {Q : State → Prop} (j : Nat) (hj : j < 512) (σ τ : HS) (hI : Inv j σ τ) (H : Heap) (locs : List Loc) (hPC : va_P D vwCl (wd SC cI cL adC σ) H) (hPM : va_P D vwCl (wd SM cI cL adM τ) H) (hS : va_S (fun q : Nat => s.heap.size ≤ q) s.heap H locs) (x3 a1 a2 a3 a4 a5 : Int32) (v1 : vp_in (x3 + 1) L) (v2 : vp_in (x3 + 2) L) (v3 : vp_in (x3 + 3) L) (v4 : vp_in (x3 + 4) L) (v5 : vp_in (x3 + 5) L) (e1 : xs (x3 + 1).toNatClampNeg = a1) (e2 : xs (x3 + 2).toNatClampNeg = a2) (e3 : xs (x3 + 3).toNatClampNeg = a3) (e4 : xs (x3 + 4).toNatClampNeg = a4) (e5 : xs (x3 + 5).toNatClampNeg = a5) (ls : Array Slot) (hl : lv_has ls 4 [(0, .ref b), (1, .ref (adC 0)), (2, .ref (adM 0)), (3, .int x3)])
    (hend : ∀ (σ1 τ1 : HS), Inv (j + 1) σ1 τ1 → ∀ (H : Heap) (locs : List Loc), va_P D vwCl (wd SC cI cL adC σ1) H → va_P D vwCl (wd SM cI cL adM τ1) H → va_S (fun q : Nat => s.heap.size ≤ q) s.heap H locs → W p l e room_1 s m #[Value.ref b] below meth c H locs 72 10389 Q (F0 m 1256 ls [])) :
    W p l e room_1 s m #[Value.ref b] below meth c H locs 72 10389 Q (F0 m 262 ls []) := by
  have hA : ∀ q : Nat, s.heap.size ≤ q → (fun q : Nat => s.heap.size ≤ q) q := fun _ h => h
  have hbA : ¬ (fun q : Nat => s.heap.size ≤ q) b := Nat.not_le.mpr hbl
  refine lv_aload_n (pc := 262) hx hb dL_law_262 rfl (lv_at hl 1 rfl) ?_
  refine lv_aload_n (pc := 263) hx hb dL_law_263 rfl (lv_at hl 0 rfl) ?_
  refine lv_iload_n (pc := 264) hx hb dL_law_264 rfl (lv_at hl 3 rfl) ?_
  refine lv_iconst (pc := 265) (v := 1) hx hb dL_law_265 (by decide) ?_
  refine lv_iadd (pc := 266) hx hb dL_law_266 ?_
  refine va_sld (pc := 267) hx hb hX hbl hbA hS v1 dL_law_267 ?_
  rw [e1]
  refine lv_aload_n (pc := 268) hx hb dL_law_268 rfl (lv_at hl 0 rfl) ?_
  refine lv_iload_n (pc := 269) hx hb dL_law_269 rfl (lv_at hl 3 rfl) ?_
  refine lv_iconst (pc := 270) (v := 2) hx hb dL_law_270 (by decide) ?_
  refine lv_iadd (pc := 271) hx hb dL_law_271 ?_
  refine va_sld (pc := 272) hx hb hX hbl hbA hS v2 dL_law_272 ?_
  rw [e2]
  refine lv_aload_n (pc := 273) hx hb dL_law_273 rfl (lv_at hl 0 rfl) ?_
  refine lv_iload_n (pc := 274) hx hb dL_law_274 rfl (lv_at hl 3 rfl) ?_
  refine lv_iconst (pc := 275) (v := 3) hx hb dL_law_275 (by decide) ?_
  refine lv_iadd (pc := 276) hx hb dL_law_276 ?_
  refine va_sld (pc := 277) hx hb hX hbl hbA hS v3 dL_law_277 ?_
  rw [e3]
  obtain ⟨r, σ1, τ1, h8, h9, hI1⟩ := op_ofWord j σ τ a1 a2 a3 hI (by omega)
  refine lw_call (S1 := SC) (S2 := SM) (ad1 := adC) (ad2 := adM) (σ := σ) (σ1 := σ1) (τ := τ) (As := [.int a1, .int a2, .int a3]) (v := (some (.int r))) (rest := []) (ci := 8) hx hb hml hown hts hN hK hDC hap hA hPC hPM hS hl.1 dL_law_278 ⟨cd_X8_ofWord, im_X8_ofWord, se_X8_ofWord, ini_X8⟩ ml_L_23 (A8_ofWord a1 a2 a3 σ _ h8) rfl rfl ⟨rfl, pd_X8_ofWord⟩ ⟨Nat.le_of_ble_eq_true rfl, Nat.le_of_ble_eq_true rfl⟩ ⟨rfl, rfl⟩ ⟨Nat.le_of_ble_eq_true rfl, Nat.le_of_ble_eq_true rfl⟩ rfl rfl rfl (Nat.le_of_ble_eq_true rfl) (fun H locs hPC hPM hS => ?_)
  refine lv_aload_n (pc := 281) hx hb dL_law_281 rfl (lv_at hl 2 rfl) ?_
  refine lv_aload_n (pc := 282) hx hb dL_law_282 rfl (lv_at hl 0 rfl) ?_
  refine lv_iload_n (pc := 283) hx hb dL_law_283 rfl (lv_at hl 3 rfl) ?_
  refine lv_iconst (pc := 284) (v := 1) hx hb dL_law_284 (by decide) ?_
  refine lv_iadd (pc := 285) hx hb dL_law_285 ?_
  refine va_sld (pc := 286) hx hb hX hbl hbA hS v1 dL_law_286 ?_
  rw [e1]
  refine lv_aload_n (pc := 287) hx hb dL_law_287 rfl (lv_at hl 0 rfl) ?_
  refine lv_iload_n (pc := 288) hx hb dL_law_288 rfl (lv_at hl 3 rfl) ?_
  refine lv_iconst (pc := 289) (v := 2) hx hb dL_law_289 (by decide) ?_
  refine lv_iadd (pc := 290) hx hb dL_law_290 ?_
  refine va_sld (pc := 291) hx hb hX hbl hbA hS v2 dL_law_291 ?_
  rw [e2]
  refine lv_aload_n (pc := 292) hx hb dL_law_292 rfl (lv_at hl 0 rfl) ?_
  refine lv_iload_n (pc := 293) hx hb dL_law_293 rfl (lv_at hl 3 rfl) ?_
  refine lv_iconst (pc := 294) (v := 3) hx hb dL_law_294 (by decide) ?_
  refine lv_iadd (pc := 295) hx hb dL_law_295 ?_
  refine va_sld (pc := 296) hx hb hX hbl hbA hS v3 dL_law_296 ?_
  rw [e3]
  refine lw_call (S1 := SM) (S2 := SC) (ad1 := adM) (ad2 := adC) (σ := τ) (σ1 := τ1) (τ := σ1) (As := [.int a1, .int a2, .int a3]) (v := (some (.int r))) (rest := [.int r]) (ci := 9) hx hb hml hown hts hN hK hDM hap2 hA hPM hPC hS hl.1 dL_law_297 ⟨cd_X9_ofWord, im_X9_ofWord, se_X9_ofWord, ini_X9⟩ ml_L_27 (A9_ofWord a1 a2 a3 τ _ h9) rfl rfl ⟨rfl, pd_X9_ofWord⟩ ⟨Nat.le_of_ble_eq_true rfl, Nat.le_of_ble_eq_true rfl⟩ ⟨rfl, rfl⟩ ⟨Nat.le_of_ble_eq_true rfl, Nat.le_of_ble_eq_true rfl⟩ rfl rfl rfl (Nat.le_of_ble_eq_true rfl) (fun H locs hPM hPC hS => ?_)
  refine lv_icmp_eq (pc := 300) (tgt := 1256) hx hb dL_law_300 (by decide) (fun _ => ?_) (fun cj => absurd rfl cj)
  exact hend σ1 τ1 hI1 H locs hPC hPM hS
set_option maxHeartbeats 4000000 in
set_option maxRecDepth 100000 in
theorem law_case3 {p : Program} {l : Launch} {e : Env} {s : State} {m : MethodId} {below : List Frame} {meth : Method} {c : Code} {D : va_G} {cI cL : ClassId} {adC adM : Nat → Nat} {b L : Nat} {xs : Nat → Int32} (hx : p.tables.exec = Jvm.exec) (hb : c.code = code) (hml : c.maxLocals = 4) (hown : s.vm.findClass RL = some m.cls) (hts : ∀ w ∈ lw_tbl, w.before #[Value.ref b] s = true) (hN : NW s) (hK : va_K D vwCl [(cI, .int), (cL, .long)] s) (hX : va_X b L xs s s.heap) (hbl : b < s.heap.size)
    (hDC : va_D (fun q : Nat => s.heap.size ≤ q) (wd SC cI cL adC zHS)) (hDM : va_D (fun q : Nat => s.heap.size ≤ q) (wd SM cI cL adM zHS)) (hap : Apart2 SC SM cI cL adC adM) (hap2 : Apart2 SM SC cI cL adM adC)
    {Q : State → Prop} (j : Nat) (hj : j < 512) (σ τ : HS) (hI : Inv j σ τ) (H : Heap) (locs : List Loc) (hPC : va_P D vwCl (wd SC cI cL adC σ) H) (hPM : va_P D vwCl (wd SM cI cL adM τ) H) (hS : va_S (fun q : Nat => s.heap.size ≤ q) s.heap H locs) (x3 a1 a2 a3 a4 a5 : Int32) (v1 : vp_in (x3 + 1) L) (v2 : vp_in (x3 + 2) L) (v3 : vp_in (x3 + 3) L) (v4 : vp_in (x3 + 4) L) (v5 : vp_in (x3 + 5) L) (e1 : xs (x3 + 1).toNatClampNeg = a1) (e2 : xs (x3 + 2).toNatClampNeg = a2) (e3 : xs (x3 + 3).toNatClampNeg = a3) (e4 : xs (x3 + 4).toNatClampNeg = a4) (e5 : xs (x3 + 5).toNatClampNeg = a5) (ls : Array Slot) (hl : lv_has ls 4 [(0, .ref b), (1, .ref (adC 0)), (2, .ref (adM 0)), (3, .int x3)])
    (hend : ∀ (σ1 τ1 : HS), Inv (j + 1) σ1 τ1 → ∀ (H : Heap) (locs : List Loc), va_P D vwCl (wd SC cI cL adC σ1) H → va_P D vwCl (wd SM cI cL adM τ1) H → va_S (fun q : Nat => s.heap.size ≤ q) s.heap H locs → W p l e room_1 s m #[Value.ref b] below meth c H locs 72 10389 Q (F0 m 1256 ls [])) :
    W p l e room_1 s m #[Value.ref b] below meth c H locs 72 10389 Q (F0 m 305 ls []) := by
  have hA : ∀ q : Nat, s.heap.size ≤ q → (fun q : Nat => s.heap.size ≤ q) q := fun _ h => h
  have hbA : ¬ (fun q : Nat => s.heap.size ≤ q) b := Nat.not_le.mpr hbl
  refine lv_aload_n (pc := 305) hx hb dL_law_305 rfl (lv_at hl 1 rfl) ?_
  refine lv_aload_n (pc := 306) hx hb dL_law_306 rfl (lv_at hl 0 rfl) ?_
  refine lv_iload_n (pc := 307) hx hb dL_law_307 rfl (lv_at hl 3 rfl) ?_
  refine lv_iconst (pc := 308) (v := 1) hx hb dL_law_308 (by decide) ?_
  refine lv_iadd (pc := 309) hx hb dL_law_309 ?_
  refine va_sld (pc := 310) hx hb hX hbl hbA hS v1 dL_law_310 ?_
  rw [e1]
  obtain ⟨r, σ1, τ1, h8, h9, hI1⟩ := op_law j σ τ a1 hI (by omega)
  refine lw_call (S1 := SC) (S2 := SM) (ad1 := adC) (ad2 := adM) (σ := σ) (σ1 := σ1) (τ := τ) (As := [.int a1]) (v := (some (.int r))) (rest := []) (ci := 8) hx hb hml hown hts hN hK hDC hap hA hPC hPM hS hl.1 dL_law_311 ⟨cd_X8_law, im_X8_law, se_X8_law, ini_X8⟩ ml_L_28 (A8_law a1 σ _ h8) rfl rfl ⟨rfl, pd_X8_law⟩ ⟨Nat.le_of_ble_eq_true rfl, Nat.le_of_ble_eq_true rfl⟩ ⟨rfl, rfl⟩ ⟨Nat.le_of_ble_eq_true rfl, Nat.le_of_ble_eq_true rfl⟩ rfl rfl rfl (Nat.le_of_ble_eq_true rfl) (fun H locs hPC hPM hS => ?_)
  refine lv_aload_n (pc := 314) hx hb dL_law_314 rfl (lv_at hl 2 rfl) ?_
  refine lv_aload_n (pc := 315) hx hb dL_law_315 rfl (lv_at hl 0 rfl) ?_
  refine lv_iload_n (pc := 316) hx hb dL_law_316 rfl (lv_at hl 3 rfl) ?_
  refine lv_iconst (pc := 317) (v := 1) hx hb dL_law_317 (by decide) ?_
  refine lv_iadd (pc := 318) hx hb dL_law_318 ?_
  refine va_sld (pc := 319) hx hb hX hbl hbA hS v1 dL_law_319 ?_
  rw [e1]
  refine lw_call (S1 := SM) (S2 := SC) (ad1 := adM) (ad2 := adC) (σ := τ) (σ1 := τ1) (τ := σ1) (As := [.int a1]) (v := (some (.int r))) (rest := [.int r]) (ci := 9) hx hb hml hown hts hN hK hDM hap2 hA hPM hPC hS hl.1 dL_law_320 ⟨cd_X9_law, im_X9_law, se_X9_law, ini_X9⟩ ml_L_32 (A9_law a1 τ _ h9) rfl rfl ⟨rfl, pd_X9_law⟩ ⟨Nat.le_of_ble_eq_true rfl, Nat.le_of_ble_eq_true rfl⟩ ⟨rfl, rfl⟩ ⟨Nat.le_of_ble_eq_true rfl, Nat.le_of_ble_eq_true rfl⟩ rfl rfl rfl (Nat.le_of_ble_eq_true rfl) (fun H locs hPM hPC hS => ?_)
  refine lv_icmp_eq (pc := 323) (tgt := 1256) hx hb dL_law_323 (by decide) (fun _ => ?_) (fun cj => absurd rfl cj)
  exact hend σ1 τ1 hI1 H locs hPC hPM hS
set_option maxHeartbeats 4000000 in
set_option maxRecDepth 100000 in
theorem law_case4 {p : Program} {l : Launch} {e : Env} {s : State} {m : MethodId} {below : List Frame} {meth : Method} {c : Code} {D : va_G} {cI cL : ClassId} {adC adM : Nat → Nat} {b L : Nat} {xs : Nat → Int32} (hx : p.tables.exec = Jvm.exec) (hb : c.code = code) (hml : c.maxLocals = 4) (hown : s.vm.findClass RL = some m.cls) (hts : ∀ w ∈ lw_tbl, w.before #[Value.ref b] s = true) (hN : NW s) (hK : va_K D vwCl [(cI, .int), (cL, .long)] s) (hX : va_X b L xs s s.heap) (hbl : b < s.heap.size)
    (hDC : va_D (fun q : Nat => s.heap.size ≤ q) (wd SC cI cL adC zHS)) (hDM : va_D (fun q : Nat => s.heap.size ≤ q) (wd SM cI cL adM zHS)) (hap : Apart2 SC SM cI cL adC adM) (hap2 : Apart2 SM SC cI cL adM adC)
    {Q : State → Prop} (j : Nat) (hj : j < 512) (σ τ : HS) (hI : Inv j σ τ) (H : Heap) (locs : List Loc) (hPC : va_P D vwCl (wd SC cI cL adC σ) H) (hPM : va_P D vwCl (wd SM cI cL adM τ) H) (hS : va_S (fun q : Nat => s.heap.size ≤ q) s.heap H locs) (x3 a1 a2 a3 a4 a5 : Int32) (v1 : vp_in (x3 + 1) L) (v2 : vp_in (x3 + 2) L) (v3 : vp_in (x3 + 3) L) (v4 : vp_in (x3 + 4) L) (v5 : vp_in (x3 + 5) L) (e1 : xs (x3 + 1).toNatClampNeg = a1) (e2 : xs (x3 + 2).toNatClampNeg = a2) (e3 : xs (x3 + 3).toNatClampNeg = a3) (e4 : xs (x3 + 4).toNatClampNeg = a4) (e5 : xs (x3 + 5).toNatClampNeg = a5) (ls : Array Slot) (hl : lv_has ls 4 [(0, .ref b), (1, .ref (adC 0)), (2, .ref (adM 0)), (3, .int x3)])
    (hend : ∀ (σ1 τ1 : HS), Inv (j + 1) σ1 τ1 → ∀ (H : Heap) (locs : List Loc), va_P D vwCl (wd SC cI cL adC σ1) H → va_P D vwCl (wd SM cI cL adM τ1) H → va_S (fun q : Nat => s.heap.size ≤ q) s.heap H locs → W p l e room_1 s m #[Value.ref b] below meth c H locs 72 10389 Q (F0 m 1256 ls [])) :
    W p l e room_1 s m #[Value.ref b] below meth c H locs 72 10389 Q (F0 m 328 ls []) := by
  have hA : ∀ q : Nat, s.heap.size ≤ q → (fun q : Nat => s.heap.size ≤ q) q := fun _ h => h
  have hbA : ¬ (fun q : Nat => s.heap.size ≤ q) b := Nat.not_le.mpr hbl
  refine lv_aload_n (pc := 328) hx hb dL_law_328 rfl (lv_at hl 1 rfl) ?_
  refine lv_aload_n (pc := 329) hx hb dL_law_329 rfl (lv_at hl 0 rfl) ?_
  refine lv_iload_n (pc := 330) hx hb dL_law_330 rfl (lv_at hl 3 rfl) ?_
  refine lv_iconst (pc := 331) (v := 1) hx hb dL_law_331 (by decide) ?_
  refine lv_iadd (pc := 332) hx hb dL_law_332 ?_
  refine va_sld (pc := 333) hx hb hX hbl hbA hS v1 dL_law_333 ?_
  rw [e1]
  refine lv_aload_n (pc := 334) hx hb dL_law_334 rfl (lv_at hl 0 rfl) ?_
  refine lv_iload_n (pc := 335) hx hb dL_law_335 rfl (lv_at hl 3 rfl) ?_
  refine lv_iconst (pc := 336) (v := 2) hx hb dL_law_336 (by decide) ?_
  refine lv_iadd (pc := 337) hx hb dL_law_337 ?_
  refine va_sld (pc := 338) hx hb hX hbl hbA hS v2 dL_law_338 ?_
  rw [e2]
  obtain ⟨r, σ1, τ1, h8, h9, hI1⟩ := op_swap j σ τ a1 a2 hI (by omega)
  refine lw_call (S1 := SC) (S2 := SM) (ad1 := adC) (ad2 := adM) (σ := σ) (σ1 := σ1) (τ := τ) (As := [.int a1, .int a2]) (v := (some (.int r))) (rest := []) (ci := 8) hx hb hml hown hts hN hK hDC hap hA hPC hPM hS hl.1 dL_law_339 ⟨cd_X8_swap, im_X8_swap, se_X8_swap, ini_X8⟩ ml_L_33 (A8_swap a1 a2 σ _ h8) rfl rfl ⟨rfl, pd_X8_swap⟩ ⟨Nat.le_of_ble_eq_true rfl, Nat.le_of_ble_eq_true rfl⟩ ⟨rfl, rfl⟩ ⟨Nat.le_of_ble_eq_true rfl, Nat.le_of_ble_eq_true rfl⟩ rfl rfl rfl (Nat.le_of_ble_eq_true rfl) (fun H locs hPC hPM hS => ?_)
  refine lv_aload_n (pc := 342) hx hb dL_law_342 rfl (lv_at hl 2 rfl) ?_
  refine lv_aload_n (pc := 343) hx hb dL_law_343 rfl (lv_at hl 0 rfl) ?_
  refine lv_iload_n (pc := 344) hx hb dL_law_344 rfl (lv_at hl 3 rfl) ?_
  refine lv_iconst (pc := 345) (v := 1) hx hb dL_law_345 (by decide) ?_
  refine lv_iadd (pc := 346) hx hb dL_law_346 ?_
  refine va_sld (pc := 347) hx hb hX hbl hbA hS v1 dL_law_347 ?_
  rw [e1]
  refine lv_aload_n (pc := 348) hx hb dL_law_348 rfl (lv_at hl 0 rfl) ?_
  refine lv_iload_n (pc := 349) hx hb dL_law_349 rfl (lv_at hl 3 rfl) ?_
  refine lv_iconst (pc := 350) (v := 2) hx hb dL_law_350 (by decide) ?_
  refine lv_iadd (pc := 351) hx hb dL_law_351 ?_
  refine va_sld (pc := 352) hx hb hX hbl hbA hS v2 dL_law_352 ?_
  rw [e2]
  refine lw_call (S1 := SM) (S2 := SC) (ad1 := adM) (ad2 := adC) (σ := τ) (σ1 := τ1) (τ := σ1) (As := [.int a1, .int a2]) (v := (some (.int r))) (rest := [.int r]) (ci := 9) hx hb hml hown hts hN hK hDM hap2 hA hPM hPC hS hl.1 dL_law_353 ⟨cd_X9_swap, im_X9_swap, se_X9_swap, ini_X9⟩ ml_L_36 (A9_swap a1 a2 τ _ h9) rfl rfl ⟨rfl, pd_X9_swap⟩ ⟨Nat.le_of_ble_eq_true rfl, Nat.le_of_ble_eq_true rfl⟩ ⟨rfl, rfl⟩ ⟨Nat.le_of_ble_eq_true rfl, Nat.le_of_ble_eq_true rfl⟩ rfl rfl rfl (Nat.le_of_ble_eq_true rfl) (fun H locs hPM hPC hS => ?_)
  refine lv_icmp_eq (pc := 356) (tgt := 1256) hx hb dL_law_356 (by decide) (fun _ => ?_) (fun cj => absurd rfl cj)
  exact hend σ1 τ1 hI1 H locs hPC hPM hS
set_option maxHeartbeats 4000000 in
set_option maxRecDepth 100000 in
theorem law_case5 {p : Program} {l : Launch} {e : Env} {s : State} {m : MethodId} {below : List Frame} {meth : Method} {c : Code} {D : va_G} {cI cL : ClassId} {adC adM : Nat → Nat} {b L : Nat} {xs : Nat → Int32} (hx : p.tables.exec = Jvm.exec) (hb : c.code = code) (hml : c.maxLocals = 4) (hown : s.vm.findClass RL = some m.cls) (hts : ∀ w ∈ lw_tbl, w.before #[Value.ref b] s = true) (hN : NW s) (hK : va_K D vwCl [(cI, .int), (cL, .long)] s) (hX : va_X b L xs s s.heap) (hbl : b < s.heap.size)
    (hDC : va_D (fun q : Nat => s.heap.size ≤ q) (wd SC cI cL adC zHS)) (hDM : va_D (fun q : Nat => s.heap.size ≤ q) (wd SM cI cL adM zHS)) (hap : Apart2 SC SM cI cL adC adM) (hap2 : Apart2 SM SC cI cL adM adC)
    {Q : State → Prop} (j : Nat) (hj : j < 512) (σ τ : HS) (hI : Inv j σ τ) (H : Heap) (locs : List Loc) (hPC : va_P D vwCl (wd SC cI cL adC σ) H) (hPM : va_P D vwCl (wd SM cI cL adM τ) H) (hS : va_S (fun q : Nat => s.heap.size ≤ q) s.heap H locs) (x3 a1 a2 a3 a4 a5 : Int32) (v1 : vp_in (x3 + 1) L) (v2 : vp_in (x3 + 2) L) (v3 : vp_in (x3 + 3) L) (v4 : vp_in (x3 + 4) L) (v5 : vp_in (x3 + 5) L) (e1 : xs (x3 + 1).toNatClampNeg = a1) (e2 : xs (x3 + 2).toNatClampNeg = a2) (e3 : xs (x3 + 3).toNatClampNeg = a3) (e4 : xs (x3 + 4).toNatClampNeg = a4) (e5 : xs (x3 + 5).toNatClampNeg = a5) (ls : Array Slot) (hl : lv_has ls 4 [(0, .ref b), (1, .ref (adC 0)), (2, .ref (adM 0)), (3, .int x3)])
    (hend : ∀ (σ1 τ1 : HS), Inv (j + 1) σ1 τ1 → ∀ (H : Heap) (locs : List Loc), va_P D vwCl (wd SC cI cL adC σ1) H → va_P D vwCl (wd SM cI cL adM τ1) H → va_S (fun q : Nat => s.heap.size ≤ q) s.heap H locs → W p l e room_1 s m #[Value.ref b] below meth c H locs 72 10389 Q (F0 m 1256 ls [])) :
    W p l e room_1 s m #[Value.ref b] below meth c H locs 72 10389 Q (F0 m 361 ls []) := by
  have hA : ∀ q : Nat, s.heap.size ≤ q → (fun q : Nat => s.heap.size ≤ q) q := fun _ h => h
  have hbA : ¬ (fun q : Nat => s.heap.size ≤ q) b := Nat.not_le.mpr hbl
  refine lv_aload_n (pc := 361) hx hb dL_law_361 rfl (lv_at hl 1 rfl) ?_
  refine lv_aload_n (pc := 362) hx hb dL_law_362 rfl (lv_at hl 0 rfl) ?_
  refine lv_iload_n (pc := 363) hx hb dL_law_363 rfl (lv_at hl 3 rfl) ?_
  refine lv_iconst (pc := 364) (v := 1) hx hb dL_law_364 (by decide) ?_
  refine lv_iadd (pc := 365) hx hb dL_law_365 ?_
  refine va_sld (pc := 366) hx hb hX hbl hbA hS v1 dL_law_366 ?_
  rw [e1]
  refine lv_aload_n (pc := 367) hx hb dL_law_367 rfl (lv_at hl 0 rfl) ?_
  refine lv_iload_n (pc := 368) hx hb dL_law_368 rfl (lv_at hl 3 rfl) ?_
  refine lv_iconst (pc := 369) (v := 2) hx hb dL_law_369 (by decide) ?_
  refine lv_iadd (pc := 370) hx hb dL_law_370 ?_
  refine va_sld (pc := 371) hx hb hX hbl hbA hS v2 dL_law_371 ?_
  rw [e2]
  refine lv_aload_n (pc := 372) hx hb dL_law_372 rfl (lv_at hl 0 rfl) ?_
  refine lv_iload_n (pc := 373) hx hb dL_law_373 rfl (lv_at hl 3 rfl) ?_
  refine lv_iconst (pc := 374) (v := 3) hx hb dL_law_374 (by decide) ?_
  refine lv_iadd (pc := 375) hx hb dL_law_375 ?_
  refine va_sld (pc := 376) hx hb hX hbl hbA hS v3 dL_law_376 ?_
  rw [e3]
  refine lv_aload_n (pc := 377) hx hb dL_law_377 rfl (lv_at hl 0 rfl) ?_
  refine lv_iload_n (pc := 378) hx hb dL_law_378 rfl (lv_at hl 3 rfl) ?_
  refine lv_iconst (pc := 379) (v := 4) hx hb dL_law_379 (by decide) ?_
  refine lv_iadd (pc := 380) hx hb dL_law_380 ?_
  refine va_sld (pc := 381) hx hb hX hbl hbA hS v4 dL_law_381 ?_
  rw [e4]
  refine lv_aload_n (pc := 382) hx hb dL_law_382 rfl (lv_at hl 0 rfl) ?_
  refine lv_iload_n (pc := 383) hx hb dL_law_383 rfl (lv_at hl 3 rfl) ?_
  refine lv_iconst (pc := 384) (v := 5) hx hb dL_law_384 (by decide) ?_
  refine lv_iadd (pc := 385) hx hb dL_law_385 ?_
  refine va_sld (pc := 386) hx hb hX hbl hbA hS v5 dL_law_386 ?_
  rw [e5]
  obtain ⟨r, σ1, τ1, h8, h9, hI1⟩ := op_judge j σ τ a1 a2 a3 a4 a5 hI (by omega)
  refine lw_call (S1 := SC) (S2 := SM) (ad1 := adC) (ad2 := adM) (σ := σ) (σ1 := σ1) (τ := τ) (As := [.int a1, .int a2, .int a3, .int a4, .int a5]) (v := (some (.int r))) (rest := []) (ci := 8) hx hb hml hown hts hN hK hDC hap hA hPC hPM hS hl.1 dL_law_387 ⟨cd_X8_judge, im_X8_judge, se_X8_judge, ini_X8⟩ ml_L_37 (A8_judge a1 a2 a3 a4 a5 σ _ h8) rfl rfl ⟨rfl, pd_X8_judge⟩ ⟨Nat.le_of_ble_eq_true rfl, Nat.le_of_ble_eq_true rfl⟩ ⟨rfl, rfl⟩ ⟨Nat.le_of_ble_eq_true rfl, Nat.le_of_ble_eq_true rfl⟩ rfl rfl rfl (Nat.le_of_ble_eq_true rfl) (fun H locs hPC hPM hS => ?_)
  refine lv_aload_n (pc := 390) hx hb dL_law_390 rfl (lv_at hl 2 rfl) ?_
  refine lv_aload_n (pc := 391) hx hb dL_law_391 rfl (lv_at hl 0 rfl) ?_
  refine lv_iload_n (pc := 392) hx hb dL_law_392 rfl (lv_at hl 3 rfl) ?_
  refine lv_iconst (pc := 393) (v := 1) hx hb dL_law_393 (by decide) ?_
  refine lv_iadd (pc := 394) hx hb dL_law_394 ?_
  refine va_sld (pc := 395) hx hb hX hbl hbA hS v1 dL_law_395 ?_
  rw [e1]
  refine lv_aload_n (pc := 396) hx hb dL_law_396 rfl (lv_at hl 0 rfl) ?_
  refine lv_iload_n (pc := 397) hx hb dL_law_397 rfl (lv_at hl 3 rfl) ?_
  refine lv_iconst (pc := 398) (v := 2) hx hb dL_law_398 (by decide) ?_
  refine lv_iadd (pc := 399) hx hb dL_law_399 ?_
  refine va_sld (pc := 400) hx hb hX hbl hbA hS v2 dL_law_400 ?_
  rw [e2]
  refine lv_aload_n (pc := 401) hx hb dL_law_401 rfl (lv_at hl 0 rfl) ?_
  refine lv_iload_n (pc := 402) hx hb dL_law_402 rfl (lv_at hl 3 rfl) ?_
  refine lv_iconst (pc := 403) (v := 3) hx hb dL_law_403 (by decide) ?_
  refine lv_iadd (pc := 404) hx hb dL_law_404 ?_
  refine va_sld (pc := 405) hx hb hX hbl hbA hS v3 dL_law_405 ?_
  rw [e3]
  refine lv_aload_n (pc := 406) hx hb dL_law_406 rfl (lv_at hl 0 rfl) ?_
  refine lv_iload_n (pc := 407) hx hb dL_law_407 rfl (lv_at hl 3 rfl) ?_
  refine lv_iconst (pc := 408) (v := 4) hx hb dL_law_408 (by decide) ?_
  refine lv_iadd (pc := 409) hx hb dL_law_409 ?_
  refine va_sld (pc := 410) hx hb hX hbl hbA hS v4 dL_law_410 ?_
  rw [e4]
  refine lv_aload_n (pc := 411) hx hb dL_law_411 rfl (lv_at hl 0 rfl) ?_
  refine lv_iload_n (pc := 412) hx hb dL_law_412 rfl (lv_at hl 3 rfl) ?_
  refine lv_iconst (pc := 413) (v := 5) hx hb dL_law_413 (by decide) ?_
  refine lv_iadd (pc := 414) hx hb dL_law_414 ?_
  refine va_sld (pc := 415) hx hb hX hbl hbA hS v5 dL_law_415 ?_
  rw [e5]
  refine lw_call (S1 := SM) (S2 := SC) (ad1 := adM) (ad2 := adC) (σ := τ) (σ1 := τ1) (τ := σ1) (As := [.int a1, .int a2, .int a3, .int a4, .int a5]) (v := (some (.int r))) (rest := [.int r]) (ci := 9) hx hb hml hown hts hN hK hDM hap2 hA hPM hPC hS hl.1 dL_law_416 ⟨cd_X9_judge, im_X9_judge, se_X9_judge, ini_X9⟩ ml_L_41 (A9_judge a1 a2 a3 a4 a5 τ _ h9) rfl rfl ⟨rfl, pd_X9_judge⟩ ⟨Nat.le_of_ble_eq_true rfl, Nat.le_of_ble_eq_true rfl⟩ ⟨rfl, rfl⟩ ⟨Nat.le_of_ble_eq_true rfl, Nat.le_of_ble_eq_true rfl⟩ rfl rfl rfl (Nat.le_of_ble_eq_true rfl) (fun H locs hPM hPC hS => ?_)
  refine lv_icmp_eq (pc := 419) (tgt := 1256) hx hb dL_law_419 (by decide) (fun _ => ?_) (fun cj => absurd rfl cj)
  exact hend σ1 τ1 hI1 H locs hPC hPM hS
set_option maxHeartbeats 4000000 in
set_option maxRecDepth 100000 in
theorem law_case6 {p : Program} {l : Launch} {e : Env} {s : State} {m : MethodId} {below : List Frame} {meth : Method} {c : Code} {D : va_G} {cI cL : ClassId} {adC adM : Nat → Nat} {b L : Nat} {xs : Nat → Int32} (hx : p.tables.exec = Jvm.exec) (hb : c.code = code) (hml : c.maxLocals = 4) (hown : s.vm.findClass RL = some m.cls) (hts : ∀ w ∈ lw_tbl, w.before #[Value.ref b] s = true) (hN : NW s) (hK : va_K D vwCl [(cI, .int), (cL, .long)] s) (hX : va_X b L xs s s.heap) (hbl : b < s.heap.size)
    (hDC : va_D (fun q : Nat => s.heap.size ≤ q) (wd SC cI cL adC zHS)) (hDM : va_D (fun q : Nat => s.heap.size ≤ q) (wd SM cI cL adM zHS)) (hap : Apart2 SC SM cI cL adC adM) (hap2 : Apart2 SM SC cI cL adM adC)
    {Q : State → Prop} (j : Nat) (hj : j < 512) (σ τ : HS) (hI : Inv j σ τ) (H : Heap) (locs : List Loc) (hPC : va_P D vwCl (wd SC cI cL adC σ) H) (hPM : va_P D vwCl (wd SM cI cL adM τ) H) (hS : va_S (fun q : Nat => s.heap.size ≤ q) s.heap H locs) (x3 a1 a2 a3 a4 a5 : Int32) (v1 : vp_in (x3 + 1) L) (v2 : vp_in (x3 + 2) L) (v3 : vp_in (x3 + 3) L) (v4 : vp_in (x3 + 4) L) (v5 : vp_in (x3 + 5) L) (e1 : xs (x3 + 1).toNatClampNeg = a1) (e2 : xs (x3 + 2).toNatClampNeg = a2) (e3 : xs (x3 + 3).toNatClampNeg = a3) (e4 : xs (x3 + 4).toNatClampNeg = a4) (e5 : xs (x3 + 5).toNatClampNeg = a5) (ls : Array Slot) (hl : lv_has ls 4 [(0, .ref b), (1, .ref (adC 0)), (2, .ref (adM 0)), (3, .int x3)])
    (hend : ∀ (σ1 τ1 : HS), Inv (j + 1) σ1 τ1 → ∀ (H : Heap) (locs : List Loc), va_P D vwCl (wd SC cI cL adC σ1) H → va_P D vwCl (wd SM cI cL adM τ1) H → va_S (fun q : Nat => s.heap.size ≤ q) s.heap H locs → W p l e room_1 s m #[Value.ref b] below meth c H locs 72 10389 Q (F0 m 1256 ls [])) :
    W p l e room_1 s m #[Value.ref b] below meth c H locs 72 10389 Q (F0 m 424 ls []) := by
  have hA : ∀ q : Nat, s.heap.size ≤ q → (fun q : Nat => s.heap.size ≤ q) q := fun _ h => h
  have hbA : ¬ (fun q : Nat => s.heap.size ≤ q) b := Nat.not_le.mpr hbl
  refine lv_aload_n (pc := 424) hx hb dL_law_424 rfl (lv_at hl 1 rfl) ?_
  refine lv_aload_n (pc := 425) hx hb dL_law_425 rfl (lv_at hl 0 rfl) ?_
  refine lv_iload_n (pc := 426) hx hb dL_law_426 rfl (lv_at hl 3 rfl) ?_
  refine lv_iconst (pc := 427) (v := 1) hx hb dL_law_427 (by decide) ?_
  refine lv_iadd (pc := 428) hx hb dL_law_428 ?_
  refine va_sld (pc := 429) hx hb hX hbl hbA hS v1 dL_law_429 ?_
  rw [e1]
  refine lv_aload_n (pc := 430) hx hb dL_law_430 rfl (lv_at hl 0 rfl) ?_
  refine lv_iload_n (pc := 431) hx hb dL_law_431 rfl (lv_at hl 3 rfl) ?_
  refine lv_iconst (pc := 432) (v := 2) hx hb dL_law_432 (by decide) ?_
  refine lv_iadd (pc := 433) hx hb dL_law_433 ?_
  refine va_sld (pc := 434) hx hb hX hbl hbA hS v2 dL_law_434 ?_
  rw [e2]
  refine lv_aload_n (pc := 435) hx hb dL_law_435 rfl (lv_at hl 0 rfl) ?_
  refine lv_iload_n (pc := 436) hx hb dL_law_436 rfl (lv_at hl 3 rfl) ?_
  refine lv_iconst (pc := 437) (v := 3) hx hb dL_law_437 (by decide) ?_
  refine lv_iadd (pc := 438) hx hb dL_law_438 ?_
  refine va_sld (pc := 439) hx hb hX hbl hbA hS v3 dL_law_439 ?_
  rw [e3]
  refine lv_aload_n (pc := 440) hx hb dL_law_440 rfl (lv_at hl 0 rfl) ?_
  refine lv_iload_n (pc := 441) hx hb dL_law_441 rfl (lv_at hl 3 rfl) ?_
  refine lv_iconst (pc := 442) (v := 4) hx hb dL_law_442 (by decide) ?_
  refine lv_iadd (pc := 443) hx hb dL_law_443 ?_
  refine va_sld (pc := 444) hx hb hX hbl hbA hS v4 dL_law_444 ?_
  rw [e4]
  refine lv_aload_n (pc := 445) hx hb dL_law_445 rfl (lv_at hl 0 rfl) ?_
  refine lv_iload_n (pc := 446) hx hb dL_law_446 rfl (lv_at hl 3 rfl) ?_
  refine lv_iconst (pc := 447) (v := 5) hx hb dL_law_447 (by decide) ?_
  refine lv_iadd (pc := 448) hx hb dL_law_448 ?_
  refine va_sld (pc := 449) hx hb hX hbl hbA hS v5 dL_law_449 ?_
  rw [e5]
  obtain ⟨r, σ1, τ1, h8, h9, hI1⟩ := op_worthOf j σ τ a1 a2 a3 a4 a5 hI (by omega)
  refine lw_call (S1 := SC) (S2 := SM) (ad1 := adC) (ad2 := adM) (σ := σ) (σ1 := σ1) (τ := τ) (As := [.int a1, .int a2, .int a3, .int a4, .int a5]) (v := (some (.int r))) (rest := []) (ci := 8) hx hb hml hown hts hN hK hDC hap hA hPC hPM hS hl.1 dL_law_450 ⟨cd_X8_worthOf, im_X8_worthOf, se_X8_worthOf, ini_X8⟩ ml_L_42 (A8_worthOf a1 a2 a3 a4 a5 σ _ h8) rfl rfl ⟨rfl, pd_X8_worthOf⟩ ⟨Nat.le_of_ble_eq_true rfl, Nat.le_of_ble_eq_true rfl⟩ ⟨rfl, rfl⟩ ⟨Nat.le_of_ble_eq_true rfl, Nat.le_of_ble_eq_true rfl⟩ rfl rfl rfl (Nat.le_of_ble_eq_true rfl) (fun H locs hPC hPM hS => ?_)
  refine lv_aload_n (pc := 453) hx hb dL_law_453 rfl (lv_at hl 2 rfl) ?_
  refine lv_aload_n (pc := 454) hx hb dL_law_454 rfl (lv_at hl 0 rfl) ?_
  refine lv_iload_n (pc := 455) hx hb dL_law_455 rfl (lv_at hl 3 rfl) ?_
  refine lv_iconst (pc := 456) (v := 1) hx hb dL_law_456 (by decide) ?_
  refine lv_iadd (pc := 457) hx hb dL_law_457 ?_
  refine va_sld (pc := 458) hx hb hX hbl hbA hS v1 dL_law_458 ?_
  rw [e1]
  refine lv_aload_n (pc := 459) hx hb dL_law_459 rfl (lv_at hl 0 rfl) ?_
  refine lv_iload_n (pc := 460) hx hb dL_law_460 rfl (lv_at hl 3 rfl) ?_
  refine lv_iconst (pc := 461) (v := 2) hx hb dL_law_461 (by decide) ?_
  refine lv_iadd (pc := 462) hx hb dL_law_462 ?_
  refine va_sld (pc := 463) hx hb hX hbl hbA hS v2 dL_law_463 ?_
  rw [e2]
  refine lv_aload_n (pc := 464) hx hb dL_law_464 rfl (lv_at hl 0 rfl) ?_
  refine lv_iload_n (pc := 465) hx hb dL_law_465 rfl (lv_at hl 3 rfl) ?_
  refine lv_iconst (pc := 466) (v := 3) hx hb dL_law_466 (by decide) ?_
  refine lv_iadd (pc := 467) hx hb dL_law_467 ?_
  refine va_sld (pc := 468) hx hb hX hbl hbA hS v3 dL_law_468 ?_
  rw [e3]
  refine lv_aload_n (pc := 469) hx hb dL_law_469 rfl (lv_at hl 0 rfl) ?_
  refine lv_iload_n (pc := 470) hx hb dL_law_470 rfl (lv_at hl 3 rfl) ?_
  refine lv_iconst (pc := 471) (v := 4) hx hb dL_law_471 (by decide) ?_
  refine lv_iadd (pc := 472) hx hb dL_law_472 ?_
  refine va_sld (pc := 473) hx hb hX hbl hbA hS v4 dL_law_473 ?_
  rw [e4]
  refine lv_aload_n (pc := 474) hx hb dL_law_474 rfl (lv_at hl 0 rfl) ?_
  refine lv_iload_n (pc := 475) hx hb dL_law_475 rfl (lv_at hl 3 rfl) ?_
  refine lv_iconst (pc := 476) (v := 5) hx hb dL_law_476 (by decide) ?_
  refine lv_iadd (pc := 477) hx hb dL_law_477 ?_
  refine va_sld (pc := 478) hx hb hX hbl hbA hS v5 dL_law_478 ?_
  rw [e5]
  refine lw_call (S1 := SM) (S2 := SC) (ad1 := adM) (ad2 := adC) (σ := τ) (σ1 := τ1) (τ := σ1) (As := [.int a1, .int a2, .int a3, .int a4, .int a5]) (v := (some (.int r))) (rest := [.int r]) (ci := 9) hx hb hml hown hts hN hK hDM hap2 hA hPM hPC hS hl.1 dL_law_479 ⟨cd_X9_worthOf, im_X9_worthOf, se_X9_worthOf, ini_X9⟩ ml_L_45 (A9_worthOf a1 a2 a3 a4 a5 τ _ h9) rfl rfl ⟨rfl, pd_X9_worthOf⟩ ⟨Nat.le_of_ble_eq_true rfl, Nat.le_of_ble_eq_true rfl⟩ ⟨rfl, rfl⟩ ⟨Nat.le_of_ble_eq_true rfl, Nat.le_of_ble_eq_true rfl⟩ rfl rfl rfl (Nat.le_of_ble_eq_true rfl) (fun H locs hPM hPC hS => ?_)
  refine lv_icmp_eq (pc := 482) (tgt := 1256) hx hb dL_law_482 (by decide) (fun _ => ?_) (fun cj => absurd rfl cj)
  exact hend σ1 τ1 hI1 H locs hPC hPM hS
set_option maxHeartbeats 4000000 in
set_option maxRecDepth 100000 in
theorem law_case7 {p : Program} {l : Launch} {e : Env} {s : State} {m : MethodId} {below : List Frame} {meth : Method} {c : Code} {D : va_G} {cI cL : ClassId} {adC adM : Nat → Nat} {b L : Nat} {xs : Nat → Int32} (hx : p.tables.exec = Jvm.exec) (hb : c.code = code) (hml : c.maxLocals = 4) (hown : s.vm.findClass RL = some m.cls) (hts : ∀ w ∈ lw_tbl, w.before #[Value.ref b] s = true) (hN : NW s) (hK : va_K D vwCl [(cI, .int), (cL, .long)] s) (hX : va_X b L xs s s.heap) (hbl : b < s.heap.size)
    (hDC : va_D (fun q : Nat => s.heap.size ≤ q) (wd SC cI cL adC zHS)) (hDM : va_D (fun q : Nat => s.heap.size ≤ q) (wd SM cI cL adM zHS)) (hap : Apart2 SC SM cI cL adC adM) (hap2 : Apart2 SM SC cI cL adM adC)
    {Q : State → Prop} (j : Nat) (hj : j < 512) (σ τ : HS) (hI : Inv j σ τ) (H : Heap) (locs : List Loc) (hPC : va_P D vwCl (wd SC cI cL adC σ) H) (hPM : va_P D vwCl (wd SM cI cL adM τ) H) (hS : va_S (fun q : Nat => s.heap.size ≤ q) s.heap H locs) (x3 a1 a2 a3 a4 a5 : Int32) (v1 : vp_in (x3 + 1) L) (v2 : vp_in (x3 + 2) L) (v3 : vp_in (x3 + 3) L) (v4 : vp_in (x3 + 4) L) (v5 : vp_in (x3 + 5) L) (e1 : xs (x3 + 1).toNatClampNeg = a1) (e2 : xs (x3 + 2).toNatClampNeg = a2) (e3 : xs (x3 + 3).toNatClampNeg = a3) (e4 : xs (x3 + 4).toNatClampNeg = a4) (e5 : xs (x3 + 5).toNatClampNeg = a5) (ls : Array Slot) (hl : lv_has ls 4 [(0, .ref b), (1, .ref (adC 0)), (2, .ref (adM 0)), (3, .int x3)])
    (hend : ∀ (σ1 τ1 : HS), Inv (j + 1) σ1 τ1 → ∀ (H : Heap) (locs : List Loc), va_P D vwCl (wd SC cI cL adC σ1) H → va_P D vwCl (wd SM cI cL adM τ1) H → va_S (fun q : Nat => s.heap.size ≤ q) s.heap H locs → W p l e room_1 s m #[Value.ref b] below meth c H locs 72 10389 Q (F0 m 1256 ls [])) :
    W p l e room_1 s m #[Value.ref b] below meth c H locs 72 10389 Q (F0 m 487 ls []) := by
  have hA : ∀ q : Nat, s.heap.size ≤ q → (fun q : Nat => s.heap.size ≤ q) q := fun _ h => h
  have hbA : ¬ (fun q : Nat => s.heap.size ≤ q) b := Nat.not_le.mpr hbl
  refine lv_aload_n (pc := 487) hx hb dL_law_487 rfl (lv_at hl 1 rfl) ?_
  refine lv_aload_n (pc := 488) hx hb dL_law_488 rfl (lv_at hl 0 rfl) ?_
  refine lv_iload_n (pc := 489) hx hb dL_law_489 rfl (lv_at hl 3 rfl) ?_
  refine lv_iconst (pc := 490) (v := 1) hx hb dL_law_490 (by decide) ?_
  refine lv_iadd (pc := 491) hx hb dL_law_491 ?_
  refine va_sld (pc := 492) hx hb hX hbl hbA hS v1 dL_law_492 ?_
  rw [e1]
  refine lv_aload_n (pc := 493) hx hb dL_law_493 rfl (lv_at hl 0 rfl) ?_
  refine lv_iload_n (pc := 494) hx hb dL_law_494 rfl (lv_at hl 3 rfl) ?_
  refine lv_iconst (pc := 495) (v := 2) hx hb dL_law_495 (by decide) ?_
  refine lv_iadd (pc := 496) hx hb dL_law_496 ?_
  refine va_sld (pc := 497) hx hb hX hbl hbA hS v2 dL_law_497 ?_
  rw [e2]
  obtain ⟨r, σ1, τ1, h8, h9, hI1⟩ := op_choice j σ τ a1 a2 hI (by omega)
  refine lw_call (S1 := SC) (S2 := SM) (ad1 := adC) (ad2 := adM) (σ := σ) (σ1 := σ1) (τ := τ) (As := [.int a1, .int a2]) (v := (some (.int r))) (rest := []) (ci := 8) hx hb hml hown hts hN hK hDC hap hA hPC hPM hS hl.1 dL_law_498 ⟨cd_X8_choice, im_X8_choice, se_X8_choice, ini_X8⟩ ml_L_46 (A8_choice a1 a2 σ _ h8) rfl rfl ⟨rfl, pd_X8_choice⟩ ⟨Nat.le_of_ble_eq_true rfl, Nat.le_of_ble_eq_true rfl⟩ ⟨rfl, rfl⟩ ⟨Nat.le_of_ble_eq_true rfl, Nat.le_of_ble_eq_true rfl⟩ rfl rfl rfl (Nat.le_of_ble_eq_true rfl) (fun H locs hPC hPM hS => ?_)
  refine lv_aload_n (pc := 501) hx hb dL_law_501 rfl (lv_at hl 2 rfl) ?_
  refine lv_aload_n (pc := 502) hx hb dL_law_502 rfl (lv_at hl 0 rfl) ?_
  refine lv_iload_n (pc := 503) hx hb dL_law_503 rfl (lv_at hl 3 rfl) ?_
  refine lv_iconst (pc := 504) (v := 1) hx hb dL_law_504 (by decide) ?_
  refine lv_iadd (pc := 505) hx hb dL_law_505 ?_
  refine va_sld (pc := 506) hx hb hX hbl hbA hS v1 dL_law_506 ?_
  rw [e1]
  refine lv_aload_n (pc := 507) hx hb dL_law_507 rfl (lv_at hl 0 rfl) ?_
  refine lv_iload_n (pc := 508) hx hb dL_law_508 rfl (lv_at hl 3 rfl) ?_
  refine lv_iconst (pc := 509) (v := 2) hx hb dL_law_509 (by decide) ?_
  refine lv_iadd (pc := 510) hx hb dL_law_510 ?_
  refine va_sld (pc := 511) hx hb hX hbl hbA hS v2 dL_law_511 ?_
  rw [e2]
  refine lw_call (S1 := SM) (S2 := SC) (ad1 := adM) (ad2 := adC) (σ := τ) (σ1 := τ1) (τ := σ1) (As := [.int a1, .int a2]) (v := (some (.int r))) (rest := [.int r]) (ci := 9) hx hb hml hown hts hN hK hDM hap2 hA hPM hPC hS hl.1 dL_law_512 ⟨cd_X9_choice, im_X9_choice, se_X9_choice, ini_X9⟩ ml_L_49 (A9_choice a1 a2 τ _ h9) rfl rfl ⟨rfl, pd_X9_choice⟩ ⟨Nat.le_of_ble_eq_true rfl, Nat.le_of_ble_eq_true rfl⟩ ⟨rfl, rfl⟩ ⟨Nat.le_of_ble_eq_true rfl, Nat.le_of_ble_eq_true rfl⟩ rfl rfl rfl (Nat.le_of_ble_eq_true rfl) (fun H locs hPM hPC hS => ?_)
  refine lv_icmp_eq (pc := 515) (tgt := 1256) hx hb dL_law_515 (by decide) (fun _ => ?_) (fun cj => absurd rfl cj)
  exact hend σ1 τ1 hI1 H locs hPC hPM hS
set_option maxHeartbeats 4000000 in
set_option maxRecDepth 100000 in
theorem law_case8 {p : Program} {l : Launch} {e : Env} {s : State} {m : MethodId} {below : List Frame} {meth : Method} {c : Code} {D : va_G} {cI cL : ClassId} {adC adM : Nat → Nat} {b L : Nat} {xs : Nat → Int32} (hx : p.tables.exec = Jvm.exec) (hb : c.code = code) (hml : c.maxLocals = 4) (hown : s.vm.findClass RL = some m.cls) (hts : ∀ w ∈ lw_tbl, w.before #[Value.ref b] s = true) (hN : NW s) (hK : va_K D vwCl [(cI, .int), (cL, .long)] s) (hX : va_X b L xs s s.heap) (hbl : b < s.heap.size)
    (hDC : va_D (fun q : Nat => s.heap.size ≤ q) (wd SC cI cL adC zHS)) (hDM : va_D (fun q : Nat => s.heap.size ≤ q) (wd SM cI cL adM zHS)) (hap : Apart2 SC SM cI cL adC adM) (hap2 : Apart2 SM SC cI cL adM adC)
    {Q : State → Prop} (j : Nat) (hj : j < 512) (σ τ : HS) (hI : Inv j σ τ) (H : Heap) (locs : List Loc) (hPC : va_P D vwCl (wd SC cI cL adC σ) H) (hPM : va_P D vwCl (wd SM cI cL adM τ) H) (hS : va_S (fun q : Nat => s.heap.size ≤ q) s.heap H locs) (x3 a1 a2 a3 a4 a5 : Int32) (v1 : vp_in (x3 + 1) L) (v2 : vp_in (x3 + 2) L) (v3 : vp_in (x3 + 3) L) (v4 : vp_in (x3 + 4) L) (v5 : vp_in (x3 + 5) L) (e1 : xs (x3 + 1).toNatClampNeg = a1) (e2 : xs (x3 + 2).toNatClampNeg = a2) (e3 : xs (x3 + 3).toNatClampNeg = a3) (e4 : xs (x3 + 4).toNatClampNeg = a4) (e5 : xs (x3 + 5).toNatClampNeg = a5) (ls : Array Slot) (hl : lv_has ls 4 [(0, .ref b), (1, .ref (adC 0)), (2, .ref (adM 0)), (3, .int x3)])
    (hend : ∀ (σ1 τ1 : HS), Inv (j + 1) σ1 τ1 → ∀ (H : Heap) (locs : List Loc), va_P D vwCl (wd SC cI cL adC σ1) H → va_P D vwCl (wd SM cI cL adM τ1) H → va_S (fun q : Nat => s.heap.size ≤ q) s.heap H locs → W p l e room_1 s m #[Value.ref b] below meth c H locs 72 10389 Q (F0 m 1256 ls [])) :
    W p l e room_1 s m #[Value.ref b] below meth c H locs 72 10389 Q (F0 m 520 ls []) := by
  have hA : ∀ q : Nat, s.heap.size ≤ q → (fun q : Nat => s.heap.size ≤ q) q := fun _ h => h
  have hbA : ¬ (fun q : Nat => s.heap.size ≤ q) b := Nat.not_le.mpr hbl
  refine lv_aload_n (pc := 520) hx hb dL_law_520 rfl (lv_at hl 1 rfl) ?_
  refine lv_aload_n (pc := 521) hx hb dL_law_521 rfl (lv_at hl 0 rfl) ?_
  refine lv_iload_n (pc := 522) hx hb dL_law_522 rfl (lv_at hl 3 rfl) ?_
  refine lv_iconst (pc := 523) (v := 1) hx hb dL_law_523 (by decide) ?_
  refine lv_iadd (pc := 524) hx hb dL_law_524 ?_
  refine va_sld (pc := 525) hx hb hX hbl hbA hS v1 dL_law_525 ?_
  rw [e1]
  obtain ⟨r, σ1, τ1, h8, h9, hI1⟩ := op_says j σ τ a1 hI (by omega)
  refine lw_call (S1 := SC) (S2 := SM) (ad1 := adC) (ad2 := adM) (σ := σ) (σ1 := σ1) (τ := τ) (As := [.int a1]) (v := (some (.int r))) (rest := []) (ci := 8) hx hb hml hown hts hN hK hDC hap hA hPC hPM hS hl.1 dL_law_526 ⟨cd_X8_says, im_X8_says, se_X8_says, ini_X8⟩ ml_L_50 (A8_says a1 σ _ h8) rfl rfl ⟨rfl, pd_X8_says⟩ ⟨Nat.le_of_ble_eq_true rfl, Nat.le_of_ble_eq_true rfl⟩ ⟨rfl, rfl⟩ ⟨Nat.le_of_ble_eq_true rfl, Nat.le_of_ble_eq_true rfl⟩ rfl rfl rfl (Nat.le_of_ble_eq_true rfl) (fun H locs hPC hPM hS => ?_)
  refine lv_aload_n (pc := 529) hx hb dL_law_529 rfl (lv_at hl 2 rfl) ?_
  refine lv_aload_n (pc := 530) hx hb dL_law_530 rfl (lv_at hl 0 rfl) ?_
  refine lv_iload_n (pc := 531) hx hb dL_law_531 rfl (lv_at hl 3 rfl) ?_
  refine lv_iconst (pc := 532) (v := 1) hx hb dL_law_532 (by decide) ?_
  refine lv_iadd (pc := 533) hx hb dL_law_533 ?_
  refine va_sld (pc := 534) hx hb hX hbl hbA hS v1 dL_law_534 ?_
  rw [e1]
  refine lw_call (S1 := SM) (S2 := SC) (ad1 := adM) (ad2 := adC) (σ := τ) (σ1 := τ1) (τ := σ1) (As := [.int a1]) (v := (some (.int r))) (rest := [.int r]) (ci := 9) hx hb hml hown hts hN hK hDM hap2 hA hPM hPC hS hl.1 dL_law_535 ⟨cd_X9_says, im_X9_says, se_X9_says, ini_X9⟩ ml_L_53 (A9_says a1 τ _ h9) rfl rfl ⟨rfl, pd_X9_says⟩ ⟨Nat.le_of_ble_eq_true rfl, Nat.le_of_ble_eq_true rfl⟩ ⟨rfl, rfl⟩ ⟨Nat.le_of_ble_eq_true rfl, Nat.le_of_ble_eq_true rfl⟩ rfl rfl rfl (Nat.le_of_ble_eq_true rfl) (fun H locs hPM hPC hS => ?_)
  refine lv_icmp_eq (pc := 538) (tgt := 1256) hx hb dL_law_538 (by decide) (fun _ => ?_) (fun cj => absurd rfl cj)
  exact hend σ1 τ1 hI1 H locs hPC hPM hS
set_option maxHeartbeats 4000000 in
set_option maxRecDepth 100000 in
theorem law_case9 {p : Program} {l : Launch} {e : Env} {s : State} {m : MethodId} {below : List Frame} {meth : Method} {c : Code} {D : va_G} {cI cL : ClassId} {adC adM : Nat → Nat} {b L : Nat} {xs : Nat → Int32} (hx : p.tables.exec = Jvm.exec) (hb : c.code = code) (hml : c.maxLocals = 4) (hown : s.vm.findClass RL = some m.cls) (hts : ∀ w ∈ lw_tbl, w.before #[Value.ref b] s = true) (hN : NW s) (hK : va_K D vwCl [(cI, .int), (cL, .long)] s) (hX : va_X b L xs s s.heap) (hbl : b < s.heap.size)
    (hDC : va_D (fun q : Nat => s.heap.size ≤ q) (wd SC cI cL adC zHS)) (hDM : va_D (fun q : Nat => s.heap.size ≤ q) (wd SM cI cL adM zHS)) (hap : Apart2 SC SM cI cL adC adM) (hap2 : Apart2 SM SC cI cL adM adC)
    {Q : State → Prop} (j : Nat) (hj : j < 512) (σ τ : HS) (hI : Inv j σ τ) (H : Heap) (locs : List Loc) (hPC : va_P D vwCl (wd SC cI cL adC σ) H) (hPM : va_P D vwCl (wd SM cI cL adM τ) H) (hS : va_S (fun q : Nat => s.heap.size ≤ q) s.heap H locs) (x3 a1 a2 a3 a4 a5 : Int32) (v1 : vp_in (x3 + 1) L) (v2 : vp_in (x3 + 2) L) (v3 : vp_in (x3 + 3) L) (v4 : vp_in (x3 + 4) L) (v5 : vp_in (x3 + 5) L) (e1 : xs (x3 + 1).toNatClampNeg = a1) (e2 : xs (x3 + 2).toNatClampNeg = a2) (e3 : xs (x3 + 3).toNatClampNeg = a3) (e4 : xs (x3 + 4).toNatClampNeg = a4) (e5 : xs (x3 + 5).toNatClampNeg = a5) (ls : Array Slot) (hl : lv_has ls 4 [(0, .ref b), (1, .ref (adC 0)), (2, .ref (adM 0)), (3, .int x3)])
    (hend : ∀ (σ1 τ1 : HS), Inv (j + 1) σ1 τ1 → ∀ (H : Heap) (locs : List Loc), va_P D vwCl (wd SC cI cL adC σ1) H → va_P D vwCl (wd SM cI cL adM τ1) H → va_S (fun q : Nat => s.heap.size ≤ q) s.heap H locs → W p l e room_1 s m #[Value.ref b] below meth c H locs 72 10389 Q (F0 m 1256 ls [])) :
    W p l e room_1 s m #[Value.ref b] below meth c H locs 72 10389 Q (F0 m 543 ls []) := by
  have hA : ∀ q : Nat, s.heap.size ≤ q → (fun q : Nat => s.heap.size ≤ q) q := fun _ h => h
  have hbA : ¬ (fun q : Nat => s.heap.size ≤ q) b := Nat.not_le.mpr hbl
  refine lv_aload_n (pc := 543) hx hb dL_law_543 rfl (lv_at hl 1 rfl) ?_
  refine lv_aload_n (pc := 544) hx hb dL_law_544 rfl (lv_at hl 0 rfl) ?_
  refine lv_iload_n (pc := 545) hx hb dL_law_545 rfl (lv_at hl 3 rfl) ?_
  refine lv_iconst (pc := 546) (v := 1) hx hb dL_law_546 (by decide) ?_
  refine lv_iadd (pc := 547) hx hb dL_law_547 ?_
  refine va_sld (pc := 548) hx hb hX hbl hbA hS v1 dL_law_548 ?_
  rw [e1]
  obtain ⟨r, σ1, τ1, h8, h9, hI1⟩ := op_water j σ τ a1 hI (by omega)
  refine lw_call (S1 := SC) (S2 := SM) (ad1 := adC) (ad2 := adM) (σ := σ) (σ1 := σ1) (τ := τ) (As := [.int a1]) (v := (some (.int r))) (rest := []) (ci := 8) hx hb hml hown hts hN hK hDC hap hA hPC hPM hS hl.1 dL_law_549 ⟨cd_X8_water, im_X8_water, se_X8_water, ini_X8⟩ ml_L_54 (A8_water a1 σ _ h8) rfl rfl ⟨rfl, pd_X8_water⟩ ⟨Nat.le_of_ble_eq_true rfl, Nat.le_of_ble_eq_true rfl⟩ ⟨rfl, rfl⟩ ⟨Nat.le_of_ble_eq_true rfl, Nat.le_of_ble_eq_true rfl⟩ rfl rfl rfl (Nat.le_of_ble_eq_true rfl) (fun H locs hPC hPM hS => ?_)
  refine lv_aload_n (pc := 552) hx hb dL_law_552 rfl (lv_at hl 2 rfl) ?_
  refine lv_aload_n (pc := 553) hx hb dL_law_553 rfl (lv_at hl 0 rfl) ?_
  refine lv_iload_n (pc := 554) hx hb dL_law_554 rfl (lv_at hl 3 rfl) ?_
  refine lv_iconst (pc := 555) (v := 1) hx hb dL_law_555 (by decide) ?_
  refine lv_iadd (pc := 556) hx hb dL_law_556 ?_
  refine va_sld (pc := 557) hx hb hX hbl hbA hS v1 dL_law_557 ?_
  rw [e1]
  refine lw_call (S1 := SM) (S2 := SC) (ad1 := adM) (ad2 := adC) (σ := τ) (σ1 := τ1) (τ := σ1) (As := [.int a1]) (v := (some (.int r))) (rest := [.int r]) (ci := 9) hx hb hml hown hts hN hK hDM hap2 hA hPM hPC hS hl.1 dL_law_558 ⟨cd_X9_water, im_X9_water, se_X9_water, ini_X9⟩ ml_L_57 (A9_water a1 τ _ h9) rfl rfl ⟨rfl, pd_X9_water⟩ ⟨Nat.le_of_ble_eq_true rfl, Nat.le_of_ble_eq_true rfl⟩ ⟨rfl, rfl⟩ ⟨Nat.le_of_ble_eq_true rfl, Nat.le_of_ble_eq_true rfl⟩ rfl rfl rfl (Nat.le_of_ble_eq_true rfl) (fun H locs hPM hPC hS => ?_)
  refine lv_icmp_eq (pc := 561) (tgt := 1256) hx hb dL_law_561 (by decide) (fun _ => ?_) (fun cj => absurd rfl cj)
  exact hend σ1 τ1 hI1 H locs hPC hPM hS
set_option maxHeartbeats 4000000 in
set_option maxRecDepth 100000 in
theorem law_case10 {p : Program} {l : Launch} {e : Env} {s : State} {m : MethodId} {below : List Frame} {meth : Method} {c : Code} {D : va_G} {cI cL : ClassId} {adC adM : Nat → Nat} {b L : Nat} {xs : Nat → Int32} (hx : p.tables.exec = Jvm.exec) (hb : c.code = code) (hml : c.maxLocals = 4) (hown : s.vm.findClass RL = some m.cls) (hts : ∀ w ∈ lw_tbl, w.before #[Value.ref b] s = true) (hN : NW s) (hK : va_K D vwCl [(cI, .int), (cL, .long)] s) (hX : va_X b L xs s s.heap) (hbl : b < s.heap.size)
    (hDC : va_D (fun q : Nat => s.heap.size ≤ q) (wd SC cI cL adC zHS)) (hDM : va_D (fun q : Nat => s.heap.size ≤ q) (wd SM cI cL adM zHS)) (hap : Apart2 SC SM cI cL adC adM) (hap2 : Apart2 SM SC cI cL adM adC)
    {Q : State → Prop} (j : Nat) (hj : j < 512) (σ τ : HS) (hI : Inv j σ τ) (H : Heap) (locs : List Loc) (hPC : va_P D vwCl (wd SC cI cL adC σ) H) (hPM : va_P D vwCl (wd SM cI cL adM τ) H) (hS : va_S (fun q : Nat => s.heap.size ≤ q) s.heap H locs) (x3 a1 a2 a3 a4 a5 : Int32) (v1 : vp_in (x3 + 1) L) (v2 : vp_in (x3 + 2) L) (v3 : vp_in (x3 + 3) L) (v4 : vp_in (x3 + 4) L) (v5 : vp_in (x3 + 5) L) (e1 : xs (x3 + 1).toNatClampNeg = a1) (e2 : xs (x3 + 2).toNatClampNeg = a2) (e3 : xs (x3 + 3).toNatClampNeg = a3) (e4 : xs (x3 + 4).toNatClampNeg = a4) (e5 : xs (x3 + 5).toNatClampNeg = a5) (ls : Array Slot) (hl : lv_has ls 4 [(0, .ref b), (1, .ref (adC 0)), (2, .ref (adM 0)), (3, .int x3)])
    (hend : ∀ (σ1 τ1 : HS), Inv (j + 1) σ1 τ1 → ∀ (H : Heap) (locs : List Loc), va_P D vwCl (wd SC cI cL adC σ1) H → va_P D vwCl (wd SM cI cL adM τ1) H → va_S (fun q : Nat => s.heap.size ≤ q) s.heap H locs → W p l e room_1 s m #[Value.ref b] below meth c H locs 72 10389 Q (F0 m 1256 ls [])) :
    W p l e room_1 s m #[Value.ref b] below meth c H locs 72 10389 Q (F0 m 566 ls []) := by
  have hA : ∀ q : Nat, s.heap.size ≤ q → (fun q : Nat => s.heap.size ≤ q) q := fun _ h => h
  have hbA : ¬ (fun q : Nat => s.heap.size ≤ q) b := Nat.not_le.mpr hbl
  refine lv_aload_n (pc := 566) hx hb dL_law_566 rfl (lv_at hl 1 rfl) ?_
  refine lv_aload_n (pc := 567) hx hb dL_law_567 rfl (lv_at hl 0 rfl) ?_
  refine lv_iload_n (pc := 568) hx hb dL_law_568 rfl (lv_at hl 3 rfl) ?_
  refine lv_iconst (pc := 569) (v := 1) hx hb dL_law_569 (by decide) ?_
  refine lv_iadd (pc := 570) hx hb dL_law_570 ?_
  refine va_sld (pc := 571) hx hb hX hbl hbA hS v1 dL_law_571 ?_
  rw [e1]
  obtain ⟨r, σ1, τ1, h8, h9, hI1⟩ := op_worth j σ τ a1 hI (by omega)
  refine lw_call (S1 := SC) (S2 := SM) (ad1 := adC) (ad2 := adM) (σ := σ) (σ1 := σ1) (τ := τ) (As := [.int a1]) (v := (some (.int r))) (rest := []) (ci := 8) hx hb hml hown hts hN hK hDC hap hA hPC hPM hS hl.1 dL_law_572 ⟨cd_X8_worth, im_X8_worth, se_X8_worth, ini_X8⟩ ml_L_58 (A8_worth a1 σ _ h8) rfl rfl ⟨rfl, pd_X8_worth⟩ ⟨Nat.le_of_ble_eq_true rfl, Nat.le_of_ble_eq_true rfl⟩ ⟨rfl, rfl⟩ ⟨Nat.le_of_ble_eq_true rfl, Nat.le_of_ble_eq_true rfl⟩ rfl rfl rfl (Nat.le_of_ble_eq_true rfl) (fun H locs hPC hPM hS => ?_)
  refine lv_aload_n (pc := 575) hx hb dL_law_575 rfl (lv_at hl 2 rfl) ?_
  refine lv_aload_n (pc := 576) hx hb dL_law_576 rfl (lv_at hl 0 rfl) ?_
  refine lv_iload_n (pc := 577) hx hb dL_law_577 rfl (lv_at hl 3 rfl) ?_
  refine lv_iconst (pc := 578) (v := 1) hx hb dL_law_578 (by decide) ?_
  refine lv_iadd (pc := 579) hx hb dL_law_579 ?_
  refine va_sld (pc := 580) hx hb hX hbl hbA hS v1 dL_law_580 ?_
  rw [e1]
  refine lw_call (S1 := SM) (S2 := SC) (ad1 := adM) (ad2 := adC) (σ := τ) (σ1 := τ1) (τ := σ1) (As := [.int a1]) (v := (some (.int r))) (rest := [.int r]) (ci := 9) hx hb hml hown hts hN hK hDM hap2 hA hPM hPC hS hl.1 dL_law_581 ⟨cd_X9_worth, im_X9_worth, se_X9_worth, ini_X9⟩ ml_L_61 (A9_worth a1 τ _ h9) rfl rfl ⟨rfl, pd_X9_worth⟩ ⟨Nat.le_of_ble_eq_true rfl, Nat.le_of_ble_eq_true rfl⟩ ⟨rfl, rfl⟩ ⟨Nat.le_of_ble_eq_true rfl, Nat.le_of_ble_eq_true rfl⟩ rfl rfl rfl (Nat.le_of_ble_eq_true rfl) (fun H locs hPM hPC hS => ?_)
  refine lv_icmp_eq (pc := 584) (tgt := 1256) hx hb dL_law_584 (by decide) (fun _ => ?_) (fun cj => absurd rfl cj)
  exact hend σ1 τ1 hI1 H locs hPC hPM hS
set_option maxHeartbeats 4000000 in
set_option maxRecDepth 100000 in
theorem law_case11 {p : Program} {l : Launch} {e : Env} {s : State} {m : MethodId} {below : List Frame} {meth : Method} {c : Code} {D : va_G} {cI cL : ClassId} {adC adM : Nat → Nat} {b L : Nat} {xs : Nat → Int32} (hx : p.tables.exec = Jvm.exec) (hb : c.code = code) (hml : c.maxLocals = 4) (hown : s.vm.findClass RL = some m.cls) (hts : ∀ w ∈ lw_tbl, w.before #[Value.ref b] s = true) (hN : NW s) (hK : va_K D vwCl [(cI, .int), (cL, .long)] s) (hX : va_X b L xs s s.heap) (hbl : b < s.heap.size)
    (hDC : va_D (fun q : Nat => s.heap.size ≤ q) (wd SC cI cL adC zHS)) (hDM : va_D (fun q : Nat => s.heap.size ≤ q) (wd SM cI cL adM zHS)) (hap : Apart2 SC SM cI cL adC adM) (hap2 : Apart2 SM SC cI cL adM adC)
    {Q : State → Prop} (j : Nat) (hj : j < 512) (σ τ : HS) (hI : Inv j σ τ) (H : Heap) (locs : List Loc) (hPC : va_P D vwCl (wd SC cI cL adC σ) H) (hPM : va_P D vwCl (wd SM cI cL adM τ) H) (hS : va_S (fun q : Nat => s.heap.size ≤ q) s.heap H locs) (x3 a1 a2 a3 a4 a5 : Int32) (v1 : vp_in (x3 + 1) L) (v2 : vp_in (x3 + 2) L) (v3 : vp_in (x3 + 3) L) (v4 : vp_in (x3 + 4) L) (v5 : vp_in (x3 + 5) L) (e1 : xs (x3 + 1).toNatClampNeg = a1) (e2 : xs (x3 + 2).toNatClampNeg = a2) (e3 : xs (x3 + 3).toNatClampNeg = a3) (e4 : xs (x3 + 4).toNatClampNeg = a4) (e5 : xs (x3 + 5).toNatClampNeg = a5) (ls : Array Slot) (hl : lv_has ls 4 [(0, .ref b), (1, .ref (adC 0)), (2, .ref (adM 0)), (3, .int x3)])
    (hend : ∀ (σ1 τ1 : HS), Inv (j + 1) σ1 τ1 → ∀ (H : Heap) (locs : List Loc), va_P D vwCl (wd SC cI cL adC σ1) H → va_P D vwCl (wd SM cI cL adM τ1) H → va_S (fun q : Nat => s.heap.size ≤ q) s.heap H locs → W p l e room_1 s m #[Value.ref b] below meth c H locs 72 10389 Q (F0 m 1256 ls [])) :
    W p l e room_1 s m #[Value.ref b] below meth c H locs 72 10389 Q (F0 m 589 ls []) := by
  have hA : ∀ q : Nat, s.heap.size ≤ q → (fun q : Nat => s.heap.size ≤ q) q := fun _ h => h
  have hbA : ¬ (fun q : Nat => s.heap.size ≤ q) b := Nat.not_le.mpr hbl
  refine lv_aload_n (pc := 589) hx hb dL_law_589 rfl (lv_at hl 1 rfl) ?_
  refine lv_aload_n (pc := 590) hx hb dL_law_590 rfl (lv_at hl 0 rfl) ?_
  refine lv_iload_n (pc := 591) hx hb dL_law_591 rfl (lv_at hl 3 rfl) ?_
  refine lv_iconst (pc := 592) (v := 1) hx hb dL_law_592 (by decide) ?_
  refine lv_iadd (pc := 593) hx hb dL_law_593 ?_
  refine va_sld (pc := 594) hx hb hX hbl hbA hS v1 dL_law_594 ?_
  rw [e1]
  obtain ⟨r, σ1, τ1, h8, h9, hI1⟩ := op_together j σ τ a1 hI (by omega)
  refine lw_call (S1 := SC) (S2 := SM) (ad1 := adC) (ad2 := adM) (σ := σ) (σ1 := σ1) (τ := τ) (As := [.int a1]) (v := (some (.int r))) (rest := []) (ci := 8) hx hb hml hown hts hN hK hDC hap hA hPC hPM hS hl.1 dL_law_595 ⟨cd_X8_together, im_X8_together, se_X8_together, ini_X8⟩ ml_L_62 (A8_together a1 σ _ h8) rfl rfl ⟨rfl, pd_X8_together⟩ ⟨Nat.le_of_ble_eq_true rfl, Nat.le_of_ble_eq_true rfl⟩ ⟨rfl, rfl⟩ ⟨Nat.le_of_ble_eq_true rfl, Nat.le_of_ble_eq_true rfl⟩ rfl rfl rfl (Nat.le_of_ble_eq_true rfl) (fun H locs hPC hPM hS => ?_)
  refine lv_aload_n (pc := 598) hx hb dL_law_598 rfl (lv_at hl 2 rfl) ?_
  refine lv_aload_n (pc := 599) hx hb dL_law_599 rfl (lv_at hl 0 rfl) ?_
  refine lv_iload_n (pc := 600) hx hb dL_law_600 rfl (lv_at hl 3 rfl) ?_
  refine lv_iconst (pc := 601) (v := 1) hx hb dL_law_601 (by decide) ?_
  refine lv_iadd (pc := 602) hx hb dL_law_602 ?_
  refine va_sld (pc := 603) hx hb hX hbl hbA hS v1 dL_law_603 ?_
  rw [e1]
  refine lw_call (S1 := SM) (S2 := SC) (ad1 := adM) (ad2 := adC) (σ := τ) (σ1 := τ1) (τ := σ1) (As := [.int a1]) (v := (some (.int r))) (rest := [.int r]) (ci := 9) hx hb hml hown hts hN hK hDM hap2 hA hPM hPC hS hl.1 dL_law_604 ⟨cd_X9_together, im_X9_together, se_X9_together, ini_X9⟩ ml_L_65 (A9_together a1 τ _ h9) rfl rfl ⟨rfl, pd_X9_together⟩ ⟨Nat.le_of_ble_eq_true rfl, Nat.le_of_ble_eq_true rfl⟩ ⟨rfl, rfl⟩ ⟨Nat.le_of_ble_eq_true rfl, Nat.le_of_ble_eq_true rfl⟩ rfl rfl rfl (Nat.le_of_ble_eq_true rfl) (fun H locs hPM hPC hS => ?_)
  refine lv_icmp_eq (pc := 607) (tgt := 1256) hx hb dL_law_607 (by decide) (fun _ => ?_) (fun cj => absurd rfl cj)
  exact hend σ1 τ1 hI1 H locs hPC hPM hS
set_option maxHeartbeats 4000000 in
set_option maxRecDepth 100000 in
theorem law_case12 {p : Program} {l : Launch} {e : Env} {s : State} {m : MethodId} {below : List Frame} {meth : Method} {c : Code} {D : va_G} {cI cL : ClassId} {adC adM : Nat → Nat} {b L : Nat} {xs : Nat → Int32} (hx : p.tables.exec = Jvm.exec) (hb : c.code = code) (hml : c.maxLocals = 4) (hown : s.vm.findClass RL = some m.cls) (hts : ∀ w ∈ lw_tbl, w.before #[Value.ref b] s = true) (hN : NW s) (hK : va_K D vwCl [(cI, .int), (cL, .long)] s) (hX : va_X b L xs s s.heap) (hbl : b < s.heap.size)
    (hDC : va_D (fun q : Nat => s.heap.size ≤ q) (wd SC cI cL adC zHS)) (hDM : va_D (fun q : Nat => s.heap.size ≤ q) (wd SM cI cL adM zHS)) (hap : Apart2 SC SM cI cL adC adM) (hap2 : Apart2 SM SC cI cL adM adC)
    {Q : State → Prop} (j : Nat) (hj : j < 512) (σ τ : HS) (hI : Inv j σ τ) (H : Heap) (locs : List Loc) (hPC : va_P D vwCl (wd SC cI cL adC σ) H) (hPM : va_P D vwCl (wd SM cI cL adM τ) H) (hS : va_S (fun q : Nat => s.heap.size ≤ q) s.heap H locs) (x3 a1 a2 a3 a4 a5 : Int32) (v1 : vp_in (x3 + 1) L) (v2 : vp_in (x3 + 2) L) (v3 : vp_in (x3 + 3) L) (v4 : vp_in (x3 + 4) L) (v5 : vp_in (x3 + 5) L) (e1 : xs (x3 + 1).toNatClampNeg = a1) (e2 : xs (x3 + 2).toNatClampNeg = a2) (e3 : xs (x3 + 3).toNatClampNeg = a3) (e4 : xs (x3 + 4).toNatClampNeg = a4) (e5 : xs (x3 + 5).toNatClampNeg = a5) (ls : Array Slot) (hl : lv_has ls 4 [(0, .ref b), (1, .ref (adC 0)), (2, .ref (adM 0)), (3, .int x3)])
    (hend : ∀ (σ1 τ1 : HS), Inv (j + 1) σ1 τ1 → ∀ (H : Heap) (locs : List Loc), va_P D vwCl (wd SC cI cL adC σ1) H → va_P D vwCl (wd SM cI cL adM τ1) H → va_S (fun q : Nat => s.heap.size ≤ q) s.heap H locs → W p l e room_1 s m #[Value.ref b] below meth c H locs 72 10389 Q (F0 m 1256 ls [])) :
    W p l e room_1 s m #[Value.ref b] below meth c H locs 72 10389 Q (F0 m 612 ls []) := by
  have hA : ∀ q : Nat, s.heap.size ≤ q → (fun q : Nat => s.heap.size ≤ q) q := fun _ h => h
  have hbA : ¬ (fun q : Nat => s.heap.size ≤ q) b := Nat.not_le.mpr hbl
  refine lv_aload_n (pc := 612) hx hb dL_law_612 rfl (lv_at hl 1 rfl) ?_
  refine lv_aload_n (pc := 613) hx hb dL_law_613 rfl (lv_at hl 0 rfl) ?_
  refine lv_iload_n (pc := 614) hx hb dL_law_614 rfl (lv_at hl 3 rfl) ?_
  refine lv_iconst (pc := 615) (v := 1) hx hb dL_law_615 (by decide) ?_
  refine lv_iadd (pc := 616) hx hb dL_law_616 ?_
  refine va_sld (pc := 617) hx hb hX hbl hbA hS v1 dL_law_617 ?_
  rw [e1]
  refine lv_aload_n (pc := 618) hx hb dL_law_618 rfl (lv_at hl 0 rfl) ?_
  refine lv_iload_n (pc := 619) hx hb dL_law_619 rfl (lv_at hl 3 rfl) ?_
  refine lv_iconst (pc := 620) (v := 2) hx hb dL_law_620 (by decide) ?_
  refine lv_iadd (pc := 621) hx hb dL_law_621 ?_
  refine va_sld (pc := 622) hx hb hX hbl hbA hS v2 dL_law_622 ?_
  rw [e2]
  obtain ⟨r, σ1, τ1, h8, h9, hI1⟩ := op_owed j σ τ a1 a2 hI (by omega)
  refine lw_call (S1 := SC) (S2 := SM) (ad1 := adC) (ad2 := adM) (σ := σ) (σ1 := σ1) (τ := τ) (As := [.int a1, .int a2]) (v := (some (.long r))) (rest := []) (ci := 8) hx hb hml hown hts hN hK hDC hap hA hPC hPM hS hl.1 dL_law_623 ⟨cd_X8_owed, im_X8_owed, se_X8_owed, ini_X8⟩ ml_L_66 (A8_owed a1 a2 σ _ h8) rfl rfl ⟨rfl, pd_X8_owed⟩ ⟨Nat.le_of_ble_eq_true rfl, Nat.le_of_ble_eq_true rfl⟩ ⟨rfl, rfl⟩ ⟨Nat.le_of_ble_eq_true rfl, Nat.le_of_ble_eq_true rfl⟩ rfl rfl rfl (Nat.le_of_ble_eq_true rfl) (fun H locs hPC hPM hS => ?_)
  refine lv_aload_n (pc := 626) hx hb dL_law_626 rfl (lv_at hl 2 rfl) ?_
  refine lv_aload_n (pc := 627) hx hb dL_law_627 rfl (lv_at hl 0 rfl) ?_
  refine lv_iload_n (pc := 628) hx hb dL_law_628 rfl (lv_at hl 3 rfl) ?_
  refine lv_iconst (pc := 629) (v := 1) hx hb dL_law_629 (by decide) ?_
  refine lv_iadd (pc := 630) hx hb dL_law_630 ?_
  refine va_sld (pc := 631) hx hb hX hbl hbA hS v1 dL_law_631 ?_
  rw [e1]
  refine lv_aload_n (pc := 632) hx hb dL_law_632 rfl (lv_at hl 0 rfl) ?_
  refine lv_iload_n (pc := 633) hx hb dL_law_633 rfl (lv_at hl 3 rfl) ?_
  refine lv_iconst (pc := 634) (v := 2) hx hb dL_law_634 (by decide) ?_
  refine lv_iadd (pc := 635) hx hb dL_law_635 ?_
  refine va_sld (pc := 636) hx hb hX hbl hbA hS v2 dL_law_636 ?_
  rw [e2]
  refine lw_call (S1 := SM) (S2 := SC) (ad1 := adM) (ad2 := adC) (σ := τ) (σ1 := τ1) (τ := σ1) (As := [.int a1, .int a2]) (v := (some (.long r))) (rest := [.long r]) (ci := 9) hx hb hml hown hts hN hK hDM hap2 hA hPM hPC hS hl.1 dL_law_637 ⟨cd_X9_owed, im_X9_owed, se_X9_owed, ini_X9⟩ ml_L_70 (A9_owed a1 a2 τ _ h9) rfl rfl ⟨rfl, pd_X9_owed⟩ ⟨Nat.le_of_ble_eq_true rfl, Nat.le_of_ble_eq_true rfl⟩ ⟨rfl, rfl⟩ ⟨Nat.le_of_ble_eq_true rfl, Nat.le_of_ble_eq_true rfl⟩ rfl rfl rfl (Nat.le_of_ble_eq_true rfl) (fun H locs hPM hPC hS => ?_)
  refine W.lcmp (pc := 640) hx hb dL_law_640 ?_
  rw [lgc_eq]
  refine lv_if_eq (pc := 641) (tgt := 1256) hx hb dL_law_641 (by decide) (fun _ => ?_) (fun cj => absurd rfl cj)
  exact hend σ1 τ1 hI1 H locs hPC hPM hS
set_option maxHeartbeats 4000000 in
set_option maxRecDepth 100000 in
theorem law_case13 {p : Program} {l : Launch} {e : Env} {s : State} {m : MethodId} {below : List Frame} {meth : Method} {c : Code} {D : va_G} {cI cL : ClassId} {adC adM : Nat → Nat} {b L : Nat} {xs : Nat → Int32} (hx : p.tables.exec = Jvm.exec) (hb : c.code = code) (hml : c.maxLocals = 4) (hown : s.vm.findClass RL = some m.cls) (hts : ∀ w ∈ lw_tbl, w.before #[Value.ref b] s = true) (hN : NW s) (hK : va_K D vwCl [(cI, .int), (cL, .long)] s) (hX : va_X b L xs s s.heap) (hbl : b < s.heap.size)
    (hDC : va_D (fun q : Nat => s.heap.size ≤ q) (wd SC cI cL adC zHS)) (hDM : va_D (fun q : Nat => s.heap.size ≤ q) (wd SM cI cL adM zHS)) (hap : Apart2 SC SM cI cL adC adM) (hap2 : Apart2 SM SC cI cL adM adC)
    {Q : State → Prop} (j : Nat) (hj : j < 512) (σ τ : HS) (hI : Inv j σ τ) (H : Heap) (locs : List Loc) (hPC : va_P D vwCl (wd SC cI cL adC σ) H) (hPM : va_P D vwCl (wd SM cI cL adM τ) H) (hS : va_S (fun q : Nat => s.heap.size ≤ q) s.heap H locs) (x3 a1 a2 a3 a4 a5 : Int32) (v1 : vp_in (x3 + 1) L) (v2 : vp_in (x3 + 2) L) (v3 : vp_in (x3 + 3) L) (v4 : vp_in (x3 + 4) L) (v5 : vp_in (x3 + 5) L) (e1 : xs (x3 + 1).toNatClampNeg = a1) (e2 : xs (x3 + 2).toNatClampNeg = a2) (e3 : xs (x3 + 3).toNatClampNeg = a3) (e4 : xs (x3 + 4).toNatClampNeg = a4) (e5 : xs (x3 + 5).toNatClampNeg = a5) (ls : Array Slot) (hl : lv_has ls 4 [(0, .ref b), (1, .ref (adC 0)), (2, .ref (adM 0)), (3, .int x3)])
    (hend : ∀ (σ1 τ1 : HS), Inv (j + 1) σ1 τ1 → ∀ (H : Heap) (locs : List Loc), va_P D vwCl (wd SC cI cL adC σ1) H → va_P D vwCl (wd SM cI cL adM τ1) H → va_S (fun q : Nat => s.heap.size ≤ q) s.heap H locs → W p l e room_1 s m #[Value.ref b] below meth c H locs 72 10389 Q (F0 m 1256 ls [])) :
    W p l e room_1 s m #[Value.ref b] below meth c H locs 72 10389 Q (F0 m 646 ls []) := by
  have hA : ∀ q : Nat, s.heap.size ≤ q → (fun q : Nat => s.heap.size ≤ q) q := fun _ h => h
  have hbA : ¬ (fun q : Nat => s.heap.size ≤ q) b := Nat.not_le.mpr hbl
  refine lv_aload_n (pc := 646) hx hb dL_law_646 rfl (lv_at hl 1 rfl) ?_
  refine lv_aload_n (pc := 647) hx hb dL_law_647 rfl (lv_at hl 0 rfl) ?_
  refine lv_iload_n (pc := 648) hx hb dL_law_648 rfl (lv_at hl 3 rfl) ?_
  refine lv_iconst (pc := 649) (v := 1) hx hb dL_law_649 (by decide) ?_
  refine lv_iadd (pc := 650) hx hb dL_law_650 ?_
  refine va_sld (pc := 651) hx hb hX hbl hbA hS v1 dL_law_651 ?_
  rw [e1]
  refine lv_aload_n (pc := 652) hx hb dL_law_652 rfl (lv_at hl 0 rfl) ?_
  refine lv_iload_n (pc := 653) hx hb dL_law_653 rfl (lv_at hl 3 rfl) ?_
  refine lv_iconst (pc := 654) (v := 2) hx hb dL_law_654 (by decide) ?_
  refine lv_iadd (pc := 655) hx hb dL_law_655 ?_
  refine va_sld (pc := 656) hx hb hX hbl hbA hS v2 dL_law_656 ?_
  rw [e2]
  obtain ⟨r, σ1, τ1, h8, h9, hI1⟩ := op_bargain j σ τ a1 a2 hI (by omega)
  refine lw_call (S1 := SC) (S2 := SM) (ad1 := adC) (ad2 := adM) (σ := σ) (σ1 := σ1) (τ := τ) (As := [.int a1, .int a2]) (v := (some (.long r))) (rest := []) (ci := 8) hx hb hml hown hts hN hK hDC hap hA hPC hPM hS hl.1 dL_law_657 ⟨cd_X8_bargain, im_X8_bargain, se_X8_bargain, ini_X8⟩ ml_L_71 (A8_bargain a1 a2 σ _ h8) rfl rfl ⟨rfl, pd_X8_bargain⟩ ⟨Nat.le_of_ble_eq_true rfl, Nat.le_of_ble_eq_true rfl⟩ ⟨rfl, rfl⟩ ⟨Nat.le_of_ble_eq_true rfl, Nat.le_of_ble_eq_true rfl⟩ rfl rfl rfl (Nat.le_of_ble_eq_true rfl) (fun H locs hPC hPM hS => ?_)
  refine lv_aload_n (pc := 660) hx hb dL_law_660 rfl (lv_at hl 2 rfl) ?_
  refine lv_aload_n (pc := 661) hx hb dL_law_661 rfl (lv_at hl 0 rfl) ?_
  refine lv_iload_n (pc := 662) hx hb dL_law_662 rfl (lv_at hl 3 rfl) ?_
  refine lv_iconst (pc := 663) (v := 1) hx hb dL_law_663 (by decide) ?_
  refine lv_iadd (pc := 664) hx hb dL_law_664 ?_
  refine va_sld (pc := 665) hx hb hX hbl hbA hS v1 dL_law_665 ?_
  rw [e1]
  refine lv_aload_n (pc := 666) hx hb dL_law_666 rfl (lv_at hl 0 rfl) ?_
  refine lv_iload_n (pc := 667) hx hb dL_law_667 rfl (lv_at hl 3 rfl) ?_
  refine lv_iconst (pc := 668) (v := 2) hx hb dL_law_668 (by decide) ?_
  refine lv_iadd (pc := 669) hx hb dL_law_669 ?_
  refine va_sld (pc := 670) hx hb hX hbl hbA hS v2 dL_law_670 ?_
  rw [e2]
  refine lw_call (S1 := SM) (S2 := SC) (ad1 := adM) (ad2 := adC) (σ := τ) (σ1 := τ1) (τ := σ1) (As := [.int a1, .int a2]) (v := (some (.long r))) (rest := [.long r]) (ci := 9) hx hb hml hown hts hN hK hDM hap2 hA hPM hPC hS hl.1 dL_law_671 ⟨cd_X9_bargain, im_X9_bargain, se_X9_bargain, ini_X9⟩ ml_L_74 (A9_bargain a1 a2 τ _ h9) rfl rfl ⟨rfl, pd_X9_bargain⟩ ⟨Nat.le_of_ble_eq_true rfl, Nat.le_of_ble_eq_true rfl⟩ ⟨rfl, rfl⟩ ⟨Nat.le_of_ble_eq_true rfl, Nat.le_of_ble_eq_true rfl⟩ rfl rfl rfl (Nat.le_of_ble_eq_true rfl) (fun H locs hPM hPC hS => ?_)
  refine W.lcmp (pc := 674) hx hb dL_law_674 ?_
  rw [lgc_eq]
  refine lv_if_eq (pc := 675) (tgt := 1256) hx hb dL_law_675 (by decide) (fun _ => ?_) (fun cj => absurd rfl cj)
  exact hend σ1 τ1 hI1 H locs hPC hPM hS
set_option maxHeartbeats 4000000 in
set_option maxRecDepth 100000 in
theorem law_case14 {p : Program} {l : Launch} {e : Env} {s : State} {m : MethodId} {below : List Frame} {meth : Method} {c : Code} {D : va_G} {cI cL : ClassId} {adC adM : Nat → Nat} {b L : Nat} {xs : Nat → Int32} (hx : p.tables.exec = Jvm.exec) (hb : c.code = code) (hml : c.maxLocals = 4) (hown : s.vm.findClass RL = some m.cls) (hts : ∀ w ∈ lw_tbl, w.before #[Value.ref b] s = true) (hN : NW s) (hK : va_K D vwCl [(cI, .int), (cL, .long)] s) (hX : va_X b L xs s s.heap) (hbl : b < s.heap.size)
    (hDC : va_D (fun q : Nat => s.heap.size ≤ q) (wd SC cI cL adC zHS)) (hDM : va_D (fun q : Nat => s.heap.size ≤ q) (wd SM cI cL adM zHS)) (hap : Apart2 SC SM cI cL adC adM) (hap2 : Apart2 SM SC cI cL adM adC)
    {Q : State → Prop} (j : Nat) (hj : j < 512) (σ τ : HS) (hI : Inv j σ τ) (H : Heap) (locs : List Loc) (hPC : va_P D vwCl (wd SC cI cL adC σ) H) (hPM : va_P D vwCl (wd SM cI cL adM τ) H) (hS : va_S (fun q : Nat => s.heap.size ≤ q) s.heap H locs) (x3 a1 a2 a3 a4 a5 : Int32) (v1 : vp_in (x3 + 1) L) (v2 : vp_in (x3 + 2) L) (v3 : vp_in (x3 + 3) L) (v4 : vp_in (x3 + 4) L) (v5 : vp_in (x3 + 5) L) (e1 : xs (x3 + 1).toNatClampNeg = a1) (e2 : xs (x3 + 2).toNatClampNeg = a2) (e3 : xs (x3 + 3).toNatClampNeg = a3) (e4 : xs (x3 + 4).toNatClampNeg = a4) (e5 : xs (x3 + 5).toNatClampNeg = a5) (ls : Array Slot) (hl : lv_has ls 4 [(0, .ref b), (1, .ref (adC 0)), (2, .ref (adM 0)), (3, .int x3)])
    (hend : ∀ (σ1 τ1 : HS), Inv (j + 1) σ1 τ1 → ∀ (H : Heap) (locs : List Loc), va_P D vwCl (wd SC cI cL adC σ1) H → va_P D vwCl (wd SM cI cL adM τ1) H → va_S (fun q : Nat => s.heap.size ≤ q) s.heap H locs → W p l e room_1 s m #[Value.ref b] below meth c H locs 72 10389 Q (F0 m 1256 ls [])) :
    W p l e room_1 s m #[Value.ref b] below meth c H locs 72 10389 Q (F0 m 680 ls []) := by
  have hA : ∀ q : Nat, s.heap.size ≤ q → (fun q : Nat => s.heap.size ≤ q) q := fun _ h => h
  have hbA : ¬ (fun q : Nat => s.heap.size ≤ q) b := Nat.not_le.mpr hbl
  refine lv_aload_n (pc := 680) hx hb dL_law_680 rfl (lv_at hl 1 rfl) ?_
  refine lv_aload_n (pc := 681) hx hb dL_law_681 rfl (lv_at hl 0 rfl) ?_
  refine lv_iload_n (pc := 682) hx hb dL_law_682 rfl (lv_at hl 3 rfl) ?_
  refine lv_iconst (pc := 683) (v := 1) hx hb dL_law_683 (by decide) ?_
  refine lv_iadd (pc := 684) hx hb dL_law_684 ?_
  refine va_sld (pc := 685) hx hb hX hbl hbA hS v1 dL_law_685 ?_
  rw [e1]
  refine lv_aload_n (pc := 686) hx hb dL_law_686 rfl (lv_at hl 0 rfl) ?_
  refine lv_iload_n (pc := 687) hx hb dL_law_687 rfl (lv_at hl 3 rfl) ?_
  refine lv_iconst (pc := 688) (v := 2) hx hb dL_law_688 (by decide) ?_
  refine lv_iadd (pc := 689) hx hb dL_law_689 ?_
  refine va_sld (pc := 690) hx hb hX hbl hbA hS v2 dL_law_690 ?_
  rw [e2]
  refine lv_aload_n (pc := 691) hx hb dL_law_691 rfl (lv_at hl 0 rfl) ?_
  refine lv_iload_n (pc := 692) hx hb dL_law_692 rfl (lv_at hl 3 rfl) ?_
  refine lv_iconst (pc := 693) (v := 3) hx hb dL_law_693 (by decide) ?_
  refine lv_iadd (pc := 694) hx hb dL_law_694 ?_
  refine va_sld (pc := 695) hx hb hX hbl hbA hS v3 dL_law_695 ?_
  rw [e3]
  obtain ⟨r, σ1, τ1, h8, h9, hI1⟩ := op_motion j σ τ a1 a2 a3 hI (by omega)
  refine lw_call (S1 := SC) (S2 := SM) (ad1 := adC) (ad2 := adM) (σ := σ) (σ1 := σ1) (τ := τ) (As := [.int a1, .int a2, .int a3]) (v := (some (.int r))) (rest := []) (ci := 8) hx hb hml hown hts hN hK hDC hap hA hPC hPM hS hl.1 dL_law_696 ⟨cd_X8_motion, im_X8_motion, se_X8_motion, ini_X8⟩ ml_L_75 (A8_motion a1 a2 a3 σ _ h8) rfl rfl ⟨rfl, pd_X8_motion⟩ ⟨Nat.le_of_ble_eq_true rfl, Nat.le_of_ble_eq_true rfl⟩ ⟨rfl, rfl⟩ ⟨Nat.le_of_ble_eq_true rfl, Nat.le_of_ble_eq_true rfl⟩ rfl rfl rfl (Nat.le_of_ble_eq_true rfl) (fun H locs hPC hPM hS => ?_)
  refine lv_aload_n (pc := 699) hx hb dL_law_699 rfl (lv_at hl 2 rfl) ?_
  refine lv_aload_n (pc := 700) hx hb dL_law_700 rfl (lv_at hl 0 rfl) ?_
  refine lv_iload_n (pc := 701) hx hb dL_law_701 rfl (lv_at hl 3 rfl) ?_
  refine lv_iconst (pc := 702) (v := 1) hx hb dL_law_702 (by decide) ?_
  refine lv_iadd (pc := 703) hx hb dL_law_703 ?_
  refine va_sld (pc := 704) hx hb hX hbl hbA hS v1 dL_law_704 ?_
  rw [e1]
  refine lv_aload_n (pc := 705) hx hb dL_law_705 rfl (lv_at hl 0 rfl) ?_
  refine lv_iload_n (pc := 706) hx hb dL_law_706 rfl (lv_at hl 3 rfl) ?_
  refine lv_iconst (pc := 707) (v := 2) hx hb dL_law_707 (by decide) ?_
  refine lv_iadd (pc := 708) hx hb dL_law_708 ?_
  refine va_sld (pc := 709) hx hb hX hbl hbA hS v2 dL_law_709 ?_
  rw [e2]
  refine lv_aload_n (pc := 710) hx hb dL_law_710 rfl (lv_at hl 0 rfl) ?_
  refine lv_iload_n (pc := 711) hx hb dL_law_711 rfl (lv_at hl 3 rfl) ?_
  refine lv_iconst (pc := 712) (v := 3) hx hb dL_law_712 (by decide) ?_
  refine lv_iadd (pc := 713) hx hb dL_law_713 ?_
  refine va_sld (pc := 714) hx hb hX hbl hbA hS v3 dL_law_714 ?_
  rw [e3]
  refine lw_call (S1 := SM) (S2 := SC) (ad1 := adM) (ad2 := adC) (σ := τ) (σ1 := τ1) (τ := σ1) (As := [.int a1, .int a2, .int a3]) (v := (some (.int r))) (rest := [.int r]) (ci := 9) hx hb hml hown hts hN hK hDM hap2 hA hPM hPC hS hl.1 dL_law_715 ⟨cd_X9_motion, im_X9_motion, se_X9_motion, ini_X9⟩ ml_L_78 (A9_motion a1 a2 a3 τ _ h9) rfl rfl ⟨rfl, pd_X9_motion⟩ ⟨Nat.le_of_ble_eq_true rfl, Nat.le_of_ble_eq_true rfl⟩ ⟨rfl, rfl⟩ ⟨Nat.le_of_ble_eq_true rfl, Nat.le_of_ble_eq_true rfl⟩ rfl rfl rfl (Nat.le_of_ble_eq_true rfl) (fun H locs hPM hPC hS => ?_)
  refine lv_icmp_eq (pc := 718) (tgt := 1256) hx hb dL_law_718 (by decide) (fun _ => ?_) (fun cj => absurd rfl cj)
  exact hend σ1 τ1 hI1 H locs hPC hPM hS
set_option maxHeartbeats 4000000 in
set_option maxRecDepth 100000 in
theorem law_case15 {p : Program} {l : Launch} {e : Env} {s : State} {m : MethodId} {below : List Frame} {meth : Method} {c : Code} {D : va_G} {cI cL : ClassId} {adC adM : Nat → Nat} {b L : Nat} {xs : Nat → Int32} (hx : p.tables.exec = Jvm.exec) (hb : c.code = code) (hml : c.maxLocals = 4) (hown : s.vm.findClass RL = some m.cls) (hts : ∀ w ∈ lw_tbl, w.before #[Value.ref b] s = true) (hN : NW s) (hK : va_K D vwCl [(cI, .int), (cL, .long)] s) (hX : va_X b L xs s s.heap) (hbl : b < s.heap.size)
    (hDC : va_D (fun q : Nat => s.heap.size ≤ q) (wd SC cI cL adC zHS)) (hDM : va_D (fun q : Nat => s.heap.size ≤ q) (wd SM cI cL adM zHS)) (hap : Apart2 SC SM cI cL adC adM) (hap2 : Apart2 SM SC cI cL adM adC)
    {Q : State → Prop} (j : Nat) (hj : j < 512) (σ τ : HS) (hI : Inv j σ τ) (H : Heap) (locs : List Loc) (hPC : va_P D vwCl (wd SC cI cL adC σ) H) (hPM : va_P D vwCl (wd SM cI cL adM τ) H) (hS : va_S (fun q : Nat => s.heap.size ≤ q) s.heap H locs) (x3 a1 a2 a3 a4 a5 : Int32) (v1 : vp_in (x3 + 1) L) (v2 : vp_in (x3 + 2) L) (v3 : vp_in (x3 + 3) L) (v4 : vp_in (x3 + 4) L) (v5 : vp_in (x3 + 5) L) (e1 : xs (x3 + 1).toNatClampNeg = a1) (e2 : xs (x3 + 2).toNatClampNeg = a2) (e3 : xs (x3 + 3).toNatClampNeg = a3) (e4 : xs (x3 + 4).toNatClampNeg = a4) (e5 : xs (x3 + 5).toNatClampNeg = a5) (ls : Array Slot) (hl : lv_has ls 4 [(0, .ref b), (1, .ref (adC 0)), (2, .ref (adM 0)), (3, .int x3)])
    (hend : ∀ (σ1 τ1 : HS), Inv (j + 1) σ1 τ1 → ∀ (H : Heap) (locs : List Loc), va_P D vwCl (wd SC cI cL adC σ1) H → va_P D vwCl (wd SM cI cL adM τ1) H → va_S (fun q : Nat => s.heap.size ≤ q) s.heap H locs → W p l e room_1 s m #[Value.ref b] below meth c H locs 72 10389 Q (F0 m 1256 ls [])) :
    W p l e room_1 s m #[Value.ref b] below meth c H locs 72 10389 Q (F0 m 723 ls []) := by
  have hA : ∀ q : Nat, s.heap.size ≤ q → (fun q : Nat => s.heap.size ≤ q) q := fun _ h => h
  have hbA : ¬ (fun q : Nat => s.heap.size ≤ q) b := Nat.not_le.mpr hbl
  refine lv_aload_n (pc := 723) hx hb dL_law_723 rfl (lv_at hl 1 rfl) ?_
  refine lv_aload_n (pc := 724) hx hb dL_law_724 rfl (lv_at hl 0 rfl) ?_
  refine lv_iload_n (pc := 725) hx hb dL_law_725 rfl (lv_at hl 3 rfl) ?_
  refine lv_iconst (pc := 726) (v := 1) hx hb dL_law_726 (by decide) ?_
  refine lv_iadd (pc := 727) hx hb dL_law_727 ?_
  refine va_sld (pc := 728) hx hb hX hbl hbA hS v1 dL_law_728 ?_
  rw [e1]
  refine lv_aload_n (pc := 729) hx hb dL_law_729 rfl (lv_at hl 0 rfl) ?_
  refine lv_iload_n (pc := 730) hx hb dL_law_730 rfl (lv_at hl 3 rfl) ?_
  refine lv_iconst (pc := 731) (v := 2) hx hb dL_law_731 (by decide) ?_
  refine lv_iadd (pc := 732) hx hb dL_law_732 ?_
  refine va_sld (pc := 733) hx hb hX hbl hbA hS v2 dL_law_733 ?_
  rw [e2]
  obtain ⟨r, σ1, τ1, h8, h9, hI1⟩ := op_dry j σ τ a1 a2 hI (by omega)
  refine lw_call (S1 := SC) (S2 := SM) (ad1 := adC) (ad2 := adM) (σ := σ) (σ1 := σ1) (τ := τ) (As := [.int a1, .int a2]) (v := (some (.int r))) (rest := []) (ci := 8) hx hb hml hown hts hN hK hDC hap hA hPC hPM hS hl.1 dL_law_734 ⟨cd_X8_dry, im_X8_dry, se_X8_dry, ini_X8⟩ ml_L_79 (A8_dry a1 a2 σ _ h8) rfl rfl ⟨rfl, pd_X8_dry⟩ ⟨Nat.le_of_ble_eq_true rfl, Nat.le_of_ble_eq_true rfl⟩ ⟨rfl, rfl⟩ ⟨Nat.le_of_ble_eq_true rfl, Nat.le_of_ble_eq_true rfl⟩ rfl rfl rfl (Nat.le_of_ble_eq_true rfl) (fun H locs hPC hPM hS => ?_)
  refine lv_aload_n (pc := 737) hx hb dL_law_737 rfl (lv_at hl 2 rfl) ?_
  refine lv_aload_n (pc := 738) hx hb dL_law_738 rfl (lv_at hl 0 rfl) ?_
  refine lv_iload_n (pc := 739) hx hb dL_law_739 rfl (lv_at hl 3 rfl) ?_
  refine lv_iconst (pc := 740) (v := 1) hx hb dL_law_740 (by decide) ?_
  refine lv_iadd (pc := 741) hx hb dL_law_741 ?_
  refine va_sld (pc := 742) hx hb hX hbl hbA hS v1 dL_law_742 ?_
  rw [e1]
  refine lv_aload_n (pc := 743) hx hb dL_law_743 rfl (lv_at hl 0 rfl) ?_
  refine lv_iload_n (pc := 744) hx hb dL_law_744 rfl (lv_at hl 3 rfl) ?_
  refine lv_iconst (pc := 745) (v := 2) hx hb dL_law_745 (by decide) ?_
  refine lv_iadd (pc := 746) hx hb dL_law_746 ?_
  refine va_sld (pc := 747) hx hb hX hbl hbA hS v2 dL_law_747 ?_
  rw [e2]
  refine lw_call (S1 := SM) (S2 := SC) (ad1 := adM) (ad2 := adC) (σ := τ) (σ1 := τ1) (τ := σ1) (As := [.int a1, .int a2]) (v := (some (.int r))) (rest := [.int r]) (ci := 9) hx hb hml hown hts hN hK hDM hap2 hA hPM hPC hS hl.1 dL_law_748 ⟨cd_X9_dry, im_X9_dry, se_X9_dry, ini_X9⟩ ml_L_82 (A9_dry a1 a2 τ _ h9) rfl rfl ⟨rfl, pd_X9_dry⟩ ⟨Nat.le_of_ble_eq_true rfl, Nat.le_of_ble_eq_true rfl⟩ ⟨rfl, rfl⟩ ⟨Nat.le_of_ble_eq_true rfl, Nat.le_of_ble_eq_true rfl⟩ rfl rfl rfl (Nat.le_of_ble_eq_true rfl) (fun H locs hPM hPC hS => ?_)
  refine lv_icmp_eq (pc := 751) (tgt := 1256) hx hb dL_law_751 (by decide) (fun _ => ?_) (fun cj => absurd rfl cj)
  exact hend σ1 τ1 hI1 H locs hPC hPM hS
set_option maxHeartbeats 4000000 in
set_option maxRecDepth 100000 in
theorem law_case16 {p : Program} {l : Launch} {e : Env} {s : State} {m : MethodId} {below : List Frame} {meth : Method} {c : Code} {D : va_G} {cI cL : ClassId} {adC adM : Nat → Nat} {b L : Nat} {xs : Nat → Int32} (hx : p.tables.exec = Jvm.exec) (hb : c.code = code) (hml : c.maxLocals = 4) (hown : s.vm.findClass RL = some m.cls) (hts : ∀ w ∈ lw_tbl, w.before #[Value.ref b] s = true) (hN : NW s) (hK : va_K D vwCl [(cI, .int), (cL, .long)] s) (hX : va_X b L xs s s.heap) (hbl : b < s.heap.size)
    (hDC : va_D (fun q : Nat => s.heap.size ≤ q) (wd SC cI cL adC zHS)) (hDM : va_D (fun q : Nat => s.heap.size ≤ q) (wd SM cI cL adM zHS)) (hap : Apart2 SC SM cI cL adC adM) (hap2 : Apart2 SM SC cI cL adM adC)
    {Q : State → Prop} (j : Nat) (hj : j < 512) (σ τ : HS) (hI : Inv j σ τ) (H : Heap) (locs : List Loc) (hPC : va_P D vwCl (wd SC cI cL adC σ) H) (hPM : va_P D vwCl (wd SM cI cL adM τ) H) (hS : va_S (fun q : Nat => s.heap.size ≤ q) s.heap H locs) (x3 a1 a2 a3 a4 a5 : Int32) (v1 : vp_in (x3 + 1) L) (v2 : vp_in (x3 + 2) L) (v3 : vp_in (x3 + 3) L) (v4 : vp_in (x3 + 4) L) (v5 : vp_in (x3 + 5) L) (e1 : xs (x3 + 1).toNatClampNeg = a1) (e2 : xs (x3 + 2).toNatClampNeg = a2) (e3 : xs (x3 + 3).toNatClampNeg = a3) (e4 : xs (x3 + 4).toNatClampNeg = a4) (e5 : xs (x3 + 5).toNatClampNeg = a5) (ls : Array Slot) (hl : lv_has ls 4 [(0, .ref b), (1, .ref (adC 0)), (2, .ref (adM 0)), (3, .int x3)])
    (hend : ∀ (σ1 τ1 : HS), Inv (j + 1) σ1 τ1 → ∀ (H : Heap) (locs : List Loc), va_P D vwCl (wd SC cI cL adC σ1) H → va_P D vwCl (wd SM cI cL adM τ1) H → va_S (fun q : Nat => s.heap.size ≤ q) s.heap H locs → W p l e room_1 s m #[Value.ref b] below meth c H locs 72 10389 Q (F0 m 1256 ls [])) :
    W p l e room_1 s m #[Value.ref b] below meth c H locs 72 10389 Q (F0 m 756 ls []) := by
  have hA : ∀ q : Nat, s.heap.size ≤ q → (fun q : Nat => s.heap.size ≤ q) q := fun _ h => h
  have hbA : ¬ (fun q : Nat => s.heap.size ≤ q) b := Nat.not_le.mpr hbl
  refine lv_aload_n (pc := 756) hx hb dL_law_756 rfl (lv_at hl 1 rfl) ?_
  refine lv_aload_n (pc := 757) hx hb dL_law_757 rfl (lv_at hl 0 rfl) ?_
  refine lv_iload_n (pc := 758) hx hb dL_law_758 rfl (lv_at hl 3 rfl) ?_
  refine lv_iconst (pc := 759) (v := 1) hx hb dL_law_759 (by decide) ?_
  refine lv_iadd (pc := 760) hx hb dL_law_760 ?_
  refine va_sld (pc := 761) hx hb hX hbl hbA hS v1 dL_law_761 ?_
  rw [e1]
  refine lv_aload_n (pc := 762) hx hb dL_law_762 rfl (lv_at hl 0 rfl) ?_
  refine lv_iload_n (pc := 763) hx hb dL_law_763 rfl (lv_at hl 3 rfl) ?_
  refine lv_iconst (pc := 764) (v := 2) hx hb dL_law_764 (by decide) ?_
  refine lv_iadd (pc := 765) hx hb dL_law_765 ?_
  refine va_sld (pc := 766) hx hb hX hbl hbA hS v2 dL_law_766 ?_
  rw [e2]
  refine lv_aload_n (pc := 767) hx hb dL_law_767 rfl (lv_at hl 0 rfl) ?_
  refine lv_iload_n (pc := 768) hx hb dL_law_768 rfl (lv_at hl 3 rfl) ?_
  refine lv_iconst (pc := 769) (v := 3) hx hb dL_law_769 (by decide) ?_
  refine lv_iadd (pc := 770) hx hb dL_law_770 ?_
  refine va_sld (pc := 771) hx hb hX hbl hbA hS v3 dL_law_771 ?_
  rw [e3]
  refine lv_aload_n (pc := 772) hx hb dL_law_772 rfl (lv_at hl 0 rfl) ?_
  refine lv_iload_n (pc := 773) hx hb dL_law_773 rfl (lv_at hl 3 rfl) ?_
  refine lv_iconst (pc := 774) (v := 4) hx hb dL_law_774 (by decide) ?_
  refine lv_iadd (pc := 775) hx hb dL_law_775 ?_
  refine va_sld (pc := 776) hx hb hX hbl hbA hS v4 dL_law_776 ?_
  rw [e4]
  obtain ⟨r, σ1, τ1, h8, h9, hI1⟩ := op_day j σ τ a1 a2 a3 a4 hI (by omega)
  refine lw_call (S1 := SC) (S2 := SM) (ad1 := adC) (ad2 := adM) (σ := σ) (σ1 := σ1) (τ := τ) (As := [.int a1, .int a2, .int a3, .int a4]) (v := (some (.int r))) (rest := []) (ci := 8) hx hb hml hown hts hN hK hDC hap hA hPC hPM hS hl.1 dL_law_777 ⟨cd_X8_day, im_X8_day, se_X8_day, ini_X8⟩ ml_L_83 (A8_day a1 a2 a3 a4 σ _ h8) rfl rfl ⟨rfl, pd_X8_day⟩ ⟨Nat.le_of_ble_eq_true rfl, Nat.le_of_ble_eq_true rfl⟩ ⟨rfl, rfl⟩ ⟨Nat.le_of_ble_eq_true rfl, Nat.le_of_ble_eq_true rfl⟩ rfl rfl rfl (Nat.le_of_ble_eq_true rfl) (fun H locs hPC hPM hS => ?_)
  refine lv_aload_n (pc := 780) hx hb dL_law_780 rfl (lv_at hl 2 rfl) ?_
  refine lv_aload_n (pc := 781) hx hb dL_law_781 rfl (lv_at hl 0 rfl) ?_
  refine lv_iload_n (pc := 782) hx hb dL_law_782 rfl (lv_at hl 3 rfl) ?_
  refine lv_iconst (pc := 783) (v := 1) hx hb dL_law_783 (by decide) ?_
  refine lv_iadd (pc := 784) hx hb dL_law_784 ?_
  refine va_sld (pc := 785) hx hb hX hbl hbA hS v1 dL_law_785 ?_
  rw [e1]
  refine lv_aload_n (pc := 786) hx hb dL_law_786 rfl (lv_at hl 0 rfl) ?_
  refine lv_iload_n (pc := 787) hx hb dL_law_787 rfl (lv_at hl 3 rfl) ?_
  refine lv_iconst (pc := 788) (v := 2) hx hb dL_law_788 (by decide) ?_
  refine lv_iadd (pc := 789) hx hb dL_law_789 ?_
  refine va_sld (pc := 790) hx hb hX hbl hbA hS v2 dL_law_790 ?_
  rw [e2]
  refine lv_aload_n (pc := 791) hx hb dL_law_791 rfl (lv_at hl 0 rfl) ?_
  refine lv_iload_n (pc := 792) hx hb dL_law_792 rfl (lv_at hl 3 rfl) ?_
  refine lv_iconst (pc := 793) (v := 3) hx hb dL_law_793 (by decide) ?_
  refine lv_iadd (pc := 794) hx hb dL_law_794 ?_
  refine va_sld (pc := 795) hx hb hX hbl hbA hS v3 dL_law_795 ?_
  rw [e3]
  refine lv_aload_n (pc := 796) hx hb dL_law_796 rfl (lv_at hl 0 rfl) ?_
  refine lv_iload_n (pc := 797) hx hb dL_law_797 rfl (lv_at hl 3 rfl) ?_
  refine lv_iconst (pc := 798) (v := 4) hx hb dL_law_798 (by decide) ?_
  refine lv_iadd (pc := 799) hx hb dL_law_799 ?_
  refine va_sld (pc := 800) hx hb hX hbl hbA hS v4 dL_law_800 ?_
  rw [e4]
  refine lw_call (S1 := SM) (S2 := SC) (ad1 := adM) (ad2 := adC) (σ := τ) (σ1 := τ1) (τ := σ1) (As := [.int a1, .int a2, .int a3, .int a4]) (v := (some (.int r))) (rest := [.int r]) (ci := 9) hx hb hml hown hts hN hK hDM hap2 hA hPM hPC hS hl.1 dL_law_801 ⟨cd_X9_day, im_X9_day, se_X9_day, ini_X9⟩ ml_L_86 (A9_day a1 a2 a3 a4 τ _ h9) rfl rfl ⟨rfl, pd_X9_day⟩ ⟨Nat.le_of_ble_eq_true rfl, Nat.le_of_ble_eq_true rfl⟩ ⟨rfl, rfl⟩ ⟨Nat.le_of_ble_eq_true rfl, Nat.le_of_ble_eq_true rfl⟩ rfl rfl rfl (Nat.le_of_ble_eq_true rfl) (fun H locs hPM hPC hS => ?_)
  refine lv_icmp_eq (pc := 804) (tgt := 1256) hx hb dL_law_804 (by decide) (fun _ => ?_) (fun cj => absurd rfl cj)
  exact hend σ1 τ1 hI1 H locs hPC hPM hS
set_option maxHeartbeats 4000000 in
set_option maxRecDepth 100000 in
theorem law_case17 {p : Program} {l : Launch} {e : Env} {s : State} {m : MethodId} {below : List Frame} {meth : Method} {c : Code} {D : va_G} {cI cL : ClassId} {adC adM : Nat → Nat} {b L : Nat} {xs : Nat → Int32} (hx : p.tables.exec = Jvm.exec) (hb : c.code = code) (hml : c.maxLocals = 4) (hown : s.vm.findClass RL = some m.cls) (hts : ∀ w ∈ lw_tbl, w.before #[Value.ref b] s = true) (hN : NW s) (hK : va_K D vwCl [(cI, .int), (cL, .long)] s) (hX : va_X b L xs s s.heap) (hbl : b < s.heap.size)
    (hDC : va_D (fun q : Nat => s.heap.size ≤ q) (wd SC cI cL adC zHS)) (hDM : va_D (fun q : Nat => s.heap.size ≤ q) (wd SM cI cL adM zHS)) (hap : Apart2 SC SM cI cL adC adM) (hap2 : Apart2 SM SC cI cL adM adC)
    {Q : State → Prop} (j : Nat) (hj : j < 512) (σ τ : HS) (hI : Inv j σ τ) (H : Heap) (locs : List Loc) (hPC : va_P D vwCl (wd SC cI cL adC σ) H) (hPM : va_P D vwCl (wd SM cI cL adM τ) H) (hS : va_S (fun q : Nat => s.heap.size ≤ q) s.heap H locs) (x3 a1 a2 a3 a4 a5 : Int32) (v1 : vp_in (x3 + 1) L) (v2 : vp_in (x3 + 2) L) (v3 : vp_in (x3 + 3) L) (v4 : vp_in (x3 + 4) L) (v5 : vp_in (x3 + 5) L) (e1 : xs (x3 + 1).toNatClampNeg = a1) (e2 : xs (x3 + 2).toNatClampNeg = a2) (e3 : xs (x3 + 3).toNatClampNeg = a3) (e4 : xs (x3 + 4).toNatClampNeg = a4) (e5 : xs (x3 + 5).toNatClampNeg = a5) (ls : Array Slot) (hl : lv_has ls 4 [(0, .ref b), (1, .ref (adC 0)), (2, .ref (adM 0)), (3, .int x3)])
    (hend : ∀ (σ1 τ1 : HS), Inv (j + 1) σ1 τ1 → ∀ (H : Heap) (locs : List Loc), va_P D vwCl (wd SC cI cL adC σ1) H → va_P D vwCl (wd SM cI cL adM τ1) H → va_S (fun q : Nat => s.heap.size ≤ q) s.heap H locs → W p l e room_1 s m #[Value.ref b] below meth c H locs 72 10389 Q (F0 m 1256 ls [])) :
    W p l e room_1 s m #[Value.ref b] below meth c H locs 72 10389 Q (F0 m 809 ls []) := by
  have hA : ∀ q : Nat, s.heap.size ≤ q → (fun q : Nat => s.heap.size ≤ q) q := fun _ h => h
  have hbA : ¬ (fun q : Nat => s.heap.size ≤ q) b := Nat.not_le.mpr hbl
  refine lv_aload_n (pc := 809) hx hb dL_law_809 rfl (lv_at hl 1 rfl) ?_
  refine lv_aload_n (pc := 810) hx hb dL_law_810 rfl (lv_at hl 0 rfl) ?_
  refine lv_iload_n (pc := 811) hx hb dL_law_811 rfl (lv_at hl 3 rfl) ?_
  refine lv_iconst (pc := 812) (v := 1) hx hb dL_law_812 (by decide) ?_
  refine lv_iadd (pc := 813) hx hb dL_law_813 ?_
  refine va_sld (pc := 814) hx hb hX hbl hbA hS v1 dL_law_814 ?_
  rw [e1]
  obtain ⟨r, σ1, τ1, h8, h9, hI1⟩ := op_back j σ τ a1 hI (by omega)
  refine lw_call (S1 := SC) (S2 := SM) (ad1 := adC) (ad2 := adM) (σ := σ) (σ1 := σ1) (τ := τ) (As := [.int a1]) (v := (some (.int r))) (rest := []) (ci := 8) hx hb hml hown hts hN hK hDC hap hA hPC hPM hS hl.1 dL_law_815 ⟨cd_X8_back, im_X8_back, se_X8_back, ini_X8⟩ ml_L_87 (A8_back a1 σ _ h8) rfl rfl ⟨rfl, pd_X8_back⟩ ⟨Nat.le_of_ble_eq_true rfl, Nat.le_of_ble_eq_true rfl⟩ ⟨rfl, rfl⟩ ⟨Nat.le_of_ble_eq_true rfl, Nat.le_of_ble_eq_true rfl⟩ rfl rfl rfl (Nat.le_of_ble_eq_true rfl) (fun H locs hPC hPM hS => ?_)
  refine lv_aload_n (pc := 818) hx hb dL_law_818 rfl (lv_at hl 2 rfl) ?_
  refine lv_aload_n (pc := 819) hx hb dL_law_819 rfl (lv_at hl 0 rfl) ?_
  refine lv_iload_n (pc := 820) hx hb dL_law_820 rfl (lv_at hl 3 rfl) ?_
  refine lv_iconst (pc := 821) (v := 1) hx hb dL_law_821 (by decide) ?_
  refine lv_iadd (pc := 822) hx hb dL_law_822 ?_
  refine va_sld (pc := 823) hx hb hX hbl hbA hS v1 dL_law_823 ?_
  rw [e1]
  refine lw_call (S1 := SM) (S2 := SC) (ad1 := adM) (ad2 := adC) (σ := τ) (σ1 := τ1) (τ := σ1) (As := [.int a1]) (v := (some (.int r))) (rest := [.int r]) (ci := 9) hx hb hml hown hts hN hK hDM hap2 hA hPM hPC hS hl.1 dL_law_824 ⟨cd_X9_back, im_X9_back, se_X9_back, ini_X9⟩ ml_L_90 (A9_back a1 τ _ h9) rfl rfl ⟨rfl, pd_X9_back⟩ ⟨Nat.le_of_ble_eq_true rfl, Nat.le_of_ble_eq_true rfl⟩ ⟨rfl, rfl⟩ ⟨Nat.le_of_ble_eq_true rfl, Nat.le_of_ble_eq_true rfl⟩ rfl rfl rfl (Nat.le_of_ble_eq_true rfl) (fun H locs hPM hPC hS => ?_)
  refine lv_icmp_eq (pc := 827) (tgt := 1256) hx hb dL_law_827 (by decide) (fun _ => ?_) (fun cj => absurd rfl cj)
  exact hend σ1 τ1 hI1 H locs hPC hPM hS
set_option maxHeartbeats 4000000 in
set_option maxRecDepth 100000 in
theorem law_case18 {p : Program} {l : Launch} {e : Env} {s : State} {m : MethodId} {below : List Frame} {meth : Method} {c : Code} {D : va_G} {cI cL : ClassId} {adC adM : Nat → Nat} {b L : Nat} {xs : Nat → Int32} (hx : p.tables.exec = Jvm.exec) (hb : c.code = code) (hml : c.maxLocals = 4) (hown : s.vm.findClass RL = some m.cls) (hts : ∀ w ∈ lw_tbl, w.before #[Value.ref b] s = true) (hN : NW s) (hK : va_K D vwCl [(cI, .int), (cL, .long)] s) (hX : va_X b L xs s s.heap) (hbl : b < s.heap.size)
    (hDC : va_D (fun q : Nat => s.heap.size ≤ q) (wd SC cI cL adC zHS)) (hDM : va_D (fun q : Nat => s.heap.size ≤ q) (wd SM cI cL adM zHS)) (hap : Apart2 SC SM cI cL adC adM) (hap2 : Apart2 SM SC cI cL adM adC)
    {Q : State → Prop} (j : Nat) (hj : j < 512) (σ τ : HS) (hI : Inv j σ τ) (H : Heap) (locs : List Loc) (hPC : va_P D vwCl (wd SC cI cL adC σ) H) (hPM : va_P D vwCl (wd SM cI cL adM τ) H) (hS : va_S (fun q : Nat => s.heap.size ≤ q) s.heap H locs) (x3 a1 a2 a3 a4 a5 : Int32) (v1 : vp_in (x3 + 1) L) (v2 : vp_in (x3 + 2) L) (v3 : vp_in (x3 + 3) L) (v4 : vp_in (x3 + 4) L) (v5 : vp_in (x3 + 5) L) (e1 : xs (x3 + 1).toNatClampNeg = a1) (e2 : xs (x3 + 2).toNatClampNeg = a2) (e3 : xs (x3 + 3).toNatClampNeg = a3) (e4 : xs (x3 + 4).toNatClampNeg = a4) (e5 : xs (x3 + 5).toNatClampNeg = a5) (ls : Array Slot) (hl : lv_has ls 4 [(0, .ref b), (1, .ref (adC 0)), (2, .ref (adM 0)), (3, .int x3)])
    (hend : ∀ (σ1 τ1 : HS), Inv (j + 1) σ1 τ1 → ∀ (H : Heap) (locs : List Loc), va_P D vwCl (wd SC cI cL adC σ1) H → va_P D vwCl (wd SM cI cL adM τ1) H → va_S (fun q : Nat => s.heap.size ≤ q) s.heap H locs → W p l e room_1 s m #[Value.ref b] below meth c H locs 72 10389 Q (F0 m 1256 ls [])) :
    W p l e room_1 s m #[Value.ref b] below meth c H locs 72 10389 Q (F0 m 832 ls []) := by
  have hA : ∀ q : Nat, s.heap.size ≤ q → (fun q : Nat => s.heap.size ≤ q) q := fun _ h => h
  have hbA : ¬ (fun q : Nat => s.heap.size ≤ q) b := Nat.not_le.mpr hbl
  refine lv_aload_n (pc := 832) hx hb dL_law_832 rfl (lv_at hl 1 rfl) ?_
  refine lv_aload_n (pc := 833) hx hb dL_law_833 rfl (lv_at hl 0 rfl) ?_
  refine lv_iload_n (pc := 834) hx hb dL_law_834 rfl (lv_at hl 3 rfl) ?_
  refine lv_iconst (pc := 835) (v := 1) hx hb dL_law_835 (by decide) ?_
  refine lv_iadd (pc := 836) hx hb dL_law_836 ?_
  refine va_sld (pc := 837) hx hb hX hbl hbA hS v1 dL_law_837 ?_
  rw [e1]
  obtain ⟨r, σ1, τ1, h8, h9, hI1⟩ := op_guess j σ τ a1 hI (by omega)
  refine lw_call (S1 := SC) (S2 := SM) (ad1 := adC) (ad2 := adM) (σ := σ) (σ1 := σ1) (τ := τ) (As := [.int a1]) (v := (some (.int r))) (rest := []) (ci := 8) hx hb hml hown hts hN hK hDC hap hA hPC hPM hS hl.1 dL_law_838 ⟨cd_X8_guess, im_X8_guess, se_X8_guess, ini_X8⟩ ml_L_91 (A8_guess a1 σ _ h8) rfl rfl ⟨rfl, pd_X8_guess⟩ ⟨Nat.le_of_ble_eq_true rfl, Nat.le_of_ble_eq_true rfl⟩ ⟨rfl, rfl⟩ ⟨Nat.le_of_ble_eq_true rfl, Nat.le_of_ble_eq_true rfl⟩ rfl rfl rfl (Nat.le_of_ble_eq_true rfl) (fun H locs hPC hPM hS => ?_)
  refine lv_aload_n (pc := 841) hx hb dL_law_841 rfl (lv_at hl 2 rfl) ?_
  refine lv_aload_n (pc := 842) hx hb dL_law_842 rfl (lv_at hl 0 rfl) ?_
  refine lv_iload_n (pc := 843) hx hb dL_law_843 rfl (lv_at hl 3 rfl) ?_
  refine lv_iconst (pc := 844) (v := 1) hx hb dL_law_844 (by decide) ?_
  refine lv_iadd (pc := 845) hx hb dL_law_845 ?_
  refine va_sld (pc := 846) hx hb hX hbl hbA hS v1 dL_law_846 ?_
  rw [e1]
  refine lw_call (S1 := SM) (S2 := SC) (ad1 := adM) (ad2 := adC) (σ := τ) (σ1 := τ1) (τ := σ1) (As := [.int a1]) (v := (some (.int r))) (rest := [.int r]) (ci := 9) hx hb hml hown hts hN hK hDM hap2 hA hPM hPC hS hl.1 dL_law_847 ⟨cd_X9_guess, im_X9_guess, se_X9_guess, ini_X9⟩ ml_L_94 (A9_guess a1 τ _ h9) rfl rfl ⟨rfl, pd_X9_guess⟩ ⟨Nat.le_of_ble_eq_true rfl, Nat.le_of_ble_eq_true rfl⟩ ⟨rfl, rfl⟩ ⟨Nat.le_of_ble_eq_true rfl, Nat.le_of_ble_eq_true rfl⟩ rfl rfl rfl (Nat.le_of_ble_eq_true rfl) (fun H locs hPM hPC hS => ?_)
  refine lv_icmp_eq (pc := 850) (tgt := 1256) hx hb dL_law_850 (by decide) (fun _ => ?_) (fun cj => absurd rfl cj)
  exact hend σ1 τ1 hI1 H locs hPC hPM hS
set_option maxHeartbeats 4000000 in
set_option maxRecDepth 100000 in
theorem law_case19 {p : Program} {l : Launch} {e : Env} {s : State} {m : MethodId} {below : List Frame} {meth : Method} {c : Code} {D : va_G} {cI cL : ClassId} {adC adM : Nat → Nat} {b L : Nat} {xs : Nat → Int32} (hx : p.tables.exec = Jvm.exec) (hb : c.code = code) (hml : c.maxLocals = 4) (hown : s.vm.findClass RL = some m.cls) (hts : ∀ w ∈ lw_tbl, w.before #[Value.ref b] s = true) (hN : NW s) (hK : va_K D vwCl [(cI, .int), (cL, .long)] s) (hX : va_X b L xs s s.heap) (hbl : b < s.heap.size)
    (hDC : va_D (fun q : Nat => s.heap.size ≤ q) (wd SC cI cL adC zHS)) (hDM : va_D (fun q : Nat => s.heap.size ≤ q) (wd SM cI cL adM zHS)) (hap : Apart2 SC SM cI cL adC adM) (hap2 : Apart2 SM SC cI cL adM adC)
    {Q : State → Prop} (j : Nat) (hj : j < 512) (σ τ : HS) (hI : Inv j σ τ) (H : Heap) (locs : List Loc) (hPC : va_P D vwCl (wd SC cI cL adC σ) H) (hPM : va_P D vwCl (wd SM cI cL adM τ) H) (hS : va_S (fun q : Nat => s.heap.size ≤ q) s.heap H locs) (x3 a1 a2 a3 a4 a5 : Int32) (v1 : vp_in (x3 + 1) L) (v2 : vp_in (x3 + 2) L) (v3 : vp_in (x3 + 3) L) (v4 : vp_in (x3 + 4) L) (v5 : vp_in (x3 + 5) L) (e1 : xs (x3 + 1).toNatClampNeg = a1) (e2 : xs (x3 + 2).toNatClampNeg = a2) (e3 : xs (x3 + 3).toNatClampNeg = a3) (e4 : xs (x3 + 4).toNatClampNeg = a4) (e5 : xs (x3 + 5).toNatClampNeg = a5) (ls : Array Slot) (hl : lv_has ls 4 [(0, .ref b), (1, .ref (adC 0)), (2, .ref (adM 0)), (3, .int x3)])
    (hend : ∀ (σ1 τ1 : HS), Inv (j + 1) σ1 τ1 → ∀ (H : Heap) (locs : List Loc), va_P D vwCl (wd SC cI cL adC σ1) H → va_P D vwCl (wd SM cI cL adM τ1) H → va_S (fun q : Nat => s.heap.size ≤ q) s.heap H locs → W p l e room_1 s m #[Value.ref b] below meth c H locs 72 10389 Q (F0 m 1256 ls [])) :
    W p l e room_1 s m #[Value.ref b] below meth c H locs 72 10389 Q (F0 m 855 ls []) := by
  have hA : ∀ q : Nat, s.heap.size ≤ q → (fun q : Nat => s.heap.size ≤ q) q := fun _ h => h
  have hbA : ¬ (fun q : Nat => s.heap.size ≤ q) b := Nat.not_le.mpr hbl
  refine lv_aload_n (pc := 855) hx hb dL_law_855 rfl (lv_at hl 1 rfl) ?_
  refine lv_aload_n (pc := 856) hx hb dL_law_856 rfl (lv_at hl 0 rfl) ?_
  refine lv_iload_n (pc := 857) hx hb dL_law_857 rfl (lv_at hl 3 rfl) ?_
  refine lv_iconst (pc := 858) (v := 1) hx hb dL_law_858 (by decide) ?_
  refine lv_iadd (pc := 859) hx hb dL_law_859 ?_
  refine va_sld (pc := 860) hx hb hX hbl hbA hS v1 dL_law_860 ?_
  rw [e1]
  obtain ⟨r, σ1, τ1, h8, h9, hI1⟩ := op_byLaw j σ τ a1 hI (by omega)
  refine lw_call (S1 := SC) (S2 := SM) (ad1 := adC) (ad2 := adM) (σ := σ) (σ1 := σ1) (τ := τ) (As := [.int a1]) (v := (some (.int r))) (rest := []) (ci := 8) hx hb hml hown hts hN hK hDC hap hA hPC hPM hS hl.1 dL_law_861 ⟨cd_X8_byLaw, im_X8_byLaw, se_X8_byLaw, ini_X8⟩ ml_L_95 (A8_byLaw a1 σ _ h8) rfl rfl ⟨rfl, pd_X8_byLaw⟩ ⟨Nat.le_of_ble_eq_true rfl, Nat.le_of_ble_eq_true rfl⟩ ⟨rfl, rfl⟩ ⟨Nat.le_of_ble_eq_true rfl, Nat.le_of_ble_eq_true rfl⟩ rfl rfl rfl (Nat.le_of_ble_eq_true rfl) (fun H locs hPC hPM hS => ?_)
  refine lv_aload_n (pc := 864) hx hb dL_law_864 rfl (lv_at hl 2 rfl) ?_
  refine lv_aload_n (pc := 865) hx hb dL_law_865 rfl (lv_at hl 0 rfl) ?_
  refine lv_iload_n (pc := 866) hx hb dL_law_866 rfl (lv_at hl 3 rfl) ?_
  refine lv_iconst (pc := 867) (v := 1) hx hb dL_law_867 (by decide) ?_
  refine lv_iadd (pc := 868) hx hb dL_law_868 ?_
  refine va_sld (pc := 869) hx hb hX hbl hbA hS v1 dL_law_869 ?_
  rw [e1]
  refine lw_call (S1 := SM) (S2 := SC) (ad1 := adM) (ad2 := adC) (σ := τ) (σ1 := τ1) (τ := σ1) (As := [.int a1]) (v := (some (.int r))) (rest := [.int r]) (ci := 9) hx hb hml hown hts hN hK hDM hap2 hA hPM hPC hS hl.1 dL_law_870 ⟨cd_X9_byLaw, im_X9_byLaw, se_X9_byLaw, ini_X9⟩ ml_L_98 (A9_byLaw a1 τ _ h9) rfl rfl ⟨rfl, pd_X9_byLaw⟩ ⟨Nat.le_of_ble_eq_true rfl, Nat.le_of_ble_eq_true rfl⟩ ⟨rfl, rfl⟩ ⟨Nat.le_of_ble_eq_true rfl, Nat.le_of_ble_eq_true rfl⟩ rfl rfl rfl (Nat.le_of_ble_eq_true rfl) (fun H locs hPM hPC hS => ?_)
  refine lv_icmp_eq (pc := 873) (tgt := 1256) hx hb dL_law_873 (by decide) (fun _ => ?_) (fun cj => absurd rfl cj)
  exact hend σ1 τ1 hI1 H locs hPC hPM hS
set_option maxHeartbeats 4000000 in
set_option maxRecDepth 100000 in
theorem law_case20 {p : Program} {l : Launch} {e : Env} {s : State} {m : MethodId} {below : List Frame} {meth : Method} {c : Code} {D : va_G} {cI cL : ClassId} {adC adM : Nat → Nat} {b L : Nat} {xs : Nat → Int32} (hx : p.tables.exec = Jvm.exec) (hb : c.code = code) (hml : c.maxLocals = 4) (hown : s.vm.findClass RL = some m.cls) (hts : ∀ w ∈ lw_tbl, w.before #[Value.ref b] s = true) (hN : NW s) (hK : va_K D vwCl [(cI, .int), (cL, .long)] s) (hX : va_X b L xs s s.heap) (hbl : b < s.heap.size)
    (hDC : va_D (fun q : Nat => s.heap.size ≤ q) (wd SC cI cL adC zHS)) (hDM : va_D (fun q : Nat => s.heap.size ≤ q) (wd SM cI cL adM zHS)) (hap : Apart2 SC SM cI cL adC adM) (hap2 : Apart2 SM SC cI cL adM adC)
    {Q : State → Prop} (j : Nat) (hj : j < 512) (σ τ : HS) (hI : Inv j σ τ) (H : Heap) (locs : List Loc) (hPC : va_P D vwCl (wd SC cI cL adC σ) H) (hPM : va_P D vwCl (wd SM cI cL adM τ) H) (hS : va_S (fun q : Nat => s.heap.size ≤ q) s.heap H locs) (x3 a1 a2 a3 a4 a5 : Int32) (v1 : vp_in (x3 + 1) L) (v2 : vp_in (x3 + 2) L) (v3 : vp_in (x3 + 3) L) (v4 : vp_in (x3 + 4) L) (v5 : vp_in (x3 + 5) L) (e1 : xs (x3 + 1).toNatClampNeg = a1) (e2 : xs (x3 + 2).toNatClampNeg = a2) (e3 : xs (x3 + 3).toNatClampNeg = a3) (e4 : xs (x3 + 4).toNatClampNeg = a4) (e5 : xs (x3 + 5).toNatClampNeg = a5) (ls : Array Slot) (hl : lv_has ls 4 [(0, .ref b), (1, .ref (adC 0)), (2, .ref (adM 0)), (3, .int x3)])
    (hend : ∀ (σ1 τ1 : HS), Inv (j + 1) σ1 τ1 → ∀ (H : Heap) (locs : List Loc), va_P D vwCl (wd SC cI cL adC σ1) H → va_P D vwCl (wd SM cI cL adM τ1) H → va_S (fun q : Nat => s.heap.size ≤ q) s.heap H locs → W p l e room_1 s m #[Value.ref b] below meth c H locs 72 10389 Q (F0 m 1256 ls [])) :
    W p l e room_1 s m #[Value.ref b] below meth c H locs 72 10389 Q (F0 m 878 ls []) := by
  have hA : ∀ q : Nat, s.heap.size ≤ q → (fun q : Nat => s.heap.size ≤ q) q := fun _ h => h
  have hbA : ¬ (fun q : Nat => s.heap.size ≤ q) b := Nat.not_le.mpr hbl
  refine lv_aload_n (pc := 878) hx hb dL_law_878 rfl (lv_at hl 1 rfl) ?_
  refine lv_aload_n (pc := 879) hx hb dL_law_879 rfl (lv_at hl 0 rfl) ?_
  refine lv_iload_n (pc := 880) hx hb dL_law_880 rfl (lv_at hl 3 rfl) ?_
  refine lv_iconst (pc := 881) (v := 1) hx hb dL_law_881 (by decide) ?_
  refine lv_iadd (pc := 882) hx hb dL_law_882 ?_
  refine va_sld (pc := 883) hx hb hX hbl hbA hS v1 dL_law_883 ?_
  rw [e1]
  refine lv_aload_n (pc := 884) hx hb dL_law_884 rfl (lv_at hl 0 rfl) ?_
  refine lv_iload_n (pc := 885) hx hb dL_law_885 rfl (lv_at hl 3 rfl) ?_
  refine lv_iconst (pc := 886) (v := 2) hx hb dL_law_886 (by decide) ?_
  refine lv_iadd (pc := 887) hx hb dL_law_887 ?_
  refine va_sld (pc := 888) hx hb hX hbl hbA hS v2 dL_law_888 ?_
  rw [e2]
  obtain ⟨r, σ1, τ1, h8, h9, hI1⟩ := op_share j σ τ a1 a2 hI (by omega)
  refine lw_call (S1 := SC) (S2 := SM) (ad1 := adC) (ad2 := adM) (σ := σ) (σ1 := σ1) (τ := τ) (As := [.int a1, .int a2]) (v := (some (.long r))) (rest := []) (ci := 8) hx hb hml hown hts hN hK hDC hap hA hPC hPM hS hl.1 dL_law_889 ⟨cd_X8_share, im_X8_share, se_X8_share, ini_X8⟩ ml_L_99 (A8_share a1 a2 σ _ h8) rfl rfl ⟨rfl, pd_X8_share⟩ ⟨Nat.le_of_ble_eq_true rfl, Nat.le_of_ble_eq_true rfl⟩ ⟨rfl, rfl⟩ ⟨Nat.le_of_ble_eq_true rfl, Nat.le_of_ble_eq_true rfl⟩ rfl rfl rfl (Nat.le_of_ble_eq_true rfl) (fun H locs hPC hPM hS => ?_)
  refine lv_aload_n (pc := 892) hx hb dL_law_892 rfl (lv_at hl 2 rfl) ?_
  refine lv_aload_n (pc := 893) hx hb dL_law_893 rfl (lv_at hl 0 rfl) ?_
  refine lv_iload_n (pc := 894) hx hb dL_law_894 rfl (lv_at hl 3 rfl) ?_
  refine lv_iconst (pc := 895) (v := 1) hx hb dL_law_895 (by decide) ?_
  refine lv_iadd (pc := 896) hx hb dL_law_896 ?_
  refine va_sld (pc := 897) hx hb hX hbl hbA hS v1 dL_law_897 ?_
  rw [e1]
  refine lv_aload_n (pc := 898) hx hb dL_law_898 rfl (lv_at hl 0 rfl) ?_
  refine lv_iload_n (pc := 899) hx hb dL_law_899 rfl (lv_at hl 3 rfl) ?_
  refine lv_iconst (pc := 900) (v := 2) hx hb dL_law_900 (by decide) ?_
  refine lv_iadd (pc := 901) hx hb dL_law_901 ?_
  refine va_sld (pc := 902) hx hb hX hbl hbA hS v2 dL_law_902 ?_
  rw [e2]
  refine lw_call (S1 := SM) (S2 := SC) (ad1 := adM) (ad2 := adC) (σ := τ) (σ1 := τ1) (τ := σ1) (As := [.int a1, .int a2]) (v := (some (.long r))) (rest := [.long r]) (ci := 9) hx hb hml hown hts hN hK hDM hap2 hA hPM hPC hS hl.1 dL_law_903 ⟨cd_X9_share, im_X9_share, se_X9_share, ini_X9⟩ ml_L_102 (A9_share a1 a2 τ _ h9) rfl rfl ⟨rfl, pd_X9_share⟩ ⟨Nat.le_of_ble_eq_true rfl, Nat.le_of_ble_eq_true rfl⟩ ⟨rfl, rfl⟩ ⟨Nat.le_of_ble_eq_true rfl, Nat.le_of_ble_eq_true rfl⟩ rfl rfl rfl (Nat.le_of_ble_eq_true rfl) (fun H locs hPM hPC hS => ?_)
  refine W.lcmp (pc := 906) hx hb dL_law_906 ?_
  rw [lgc_eq]
  refine lv_if_eq (pc := 907) (tgt := 1256) hx hb dL_law_907 (by decide) (fun _ => ?_) (fun cj => absurd rfl cj)
  exact hend σ1 τ1 hI1 H locs hPC hPM hS
set_option maxHeartbeats 4000000 in
set_option maxRecDepth 100000 in
theorem law_case21 {p : Program} {l : Launch} {e : Env} {s : State} {m : MethodId} {below : List Frame} {meth : Method} {c : Code} {D : va_G} {cI cL : ClassId} {adC adM : Nat → Nat} {b L : Nat} {xs : Nat → Int32} (hx : p.tables.exec = Jvm.exec) (hb : c.code = code) (hml : c.maxLocals = 4) (hown : s.vm.findClass RL = some m.cls) (hts : ∀ w ∈ lw_tbl, w.before #[Value.ref b] s = true) (hN : NW s) (hK : va_K D vwCl [(cI, .int), (cL, .long)] s) (hX : va_X b L xs s s.heap) (hbl : b < s.heap.size)
    (hDC : va_D (fun q : Nat => s.heap.size ≤ q) (wd SC cI cL adC zHS)) (hDM : va_D (fun q : Nat => s.heap.size ≤ q) (wd SM cI cL adM zHS)) (hap : Apart2 SC SM cI cL adC adM) (hap2 : Apart2 SM SC cI cL adM adC)
    {Q : State → Prop} (j : Nat) (hj : j < 512) (σ τ : HS) (hI : Inv j σ τ) (H : Heap) (locs : List Loc) (hPC : va_P D vwCl (wd SC cI cL adC σ) H) (hPM : va_P D vwCl (wd SM cI cL adM τ) H) (hS : va_S (fun q : Nat => s.heap.size ≤ q) s.heap H locs) (x3 a1 a2 a3 a4 a5 : Int32) (v1 : vp_in (x3 + 1) L) (v2 : vp_in (x3 + 2) L) (v3 : vp_in (x3 + 3) L) (v4 : vp_in (x3 + 4) L) (v5 : vp_in (x3 + 5) L) (e1 : xs (x3 + 1).toNatClampNeg = a1) (e2 : xs (x3 + 2).toNatClampNeg = a2) (e3 : xs (x3 + 3).toNatClampNeg = a3) (e4 : xs (x3 + 4).toNatClampNeg = a4) (e5 : xs (x3 + 5).toNatClampNeg = a5) (ls : Array Slot) (hl : lv_has ls 4 [(0, .ref b), (1, .ref (adC 0)), (2, .ref (adM 0)), (3, .int x3)])
    (hend : ∀ (σ1 τ1 : HS), Inv (j + 1) σ1 τ1 → ∀ (H : Heap) (locs : List Loc), va_P D vwCl (wd SC cI cL adC σ1) H → va_P D vwCl (wd SM cI cL adM τ1) H → va_S (fun q : Nat => s.heap.size ≤ q) s.heap H locs → W p l e room_1 s m #[Value.ref b] below meth c H locs 72 10389 Q (F0 m 1256 ls [])) :
    W p l e room_1 s m #[Value.ref b] below meth c H locs 72 10389 Q (F0 m 912 ls []) := by
  have hA : ∀ q : Nat, s.heap.size ≤ q → (fun q : Nat => s.heap.size ≤ q) q := fun _ h => h
  have hbA : ¬ (fun q : Nat => s.heap.size ≤ q) b := Nat.not_le.mpr hbl
  refine lv_aload_n (pc := 912) hx hb dL_law_912 rfl (lv_at hl 1 rfl) ?_
  refine lv_aload_n (pc := 913) hx hb dL_law_913 rfl (lv_at hl 0 rfl) ?_
  refine lv_iload_n (pc := 914) hx hb dL_law_914 rfl (lv_at hl 3 rfl) ?_
  refine lv_iconst (pc := 915) (v := 1) hx hb dL_law_915 (by decide) ?_
  refine lv_iadd (pc := 916) hx hb dL_law_916 ?_
  refine va_sld (pc := 917) hx hb hX hbl hbA hS v1 dL_law_917 ?_
  rw [e1]
  refine lv_aload_n (pc := 918) hx hb dL_law_918 rfl (lv_at hl 0 rfl) ?_
  refine lv_iload_n (pc := 919) hx hb dL_law_919 rfl (lv_at hl 3 rfl) ?_
  refine lv_iconst (pc := 920) (v := 2) hx hb dL_law_920 (by decide) ?_
  refine lv_iadd (pc := 921) hx hb dL_law_921 ?_
  refine va_sld (pc := 922) hx hb hX hbl hbA hS v2 dL_law_922 ?_
  rw [e2]
  refine lv_aload_n (pc := 923) hx hb dL_law_923 rfl (lv_at hl 0 rfl) ?_
  refine lv_iload_n (pc := 924) hx hb dL_law_924 rfl (lv_at hl 3 rfl) ?_
  refine lv_iconst (pc := 925) (v := 3) hx hb dL_law_925 (by decide) ?_
  refine lv_iadd (pc := 926) hx hb dL_law_926 ?_
  refine va_sld (pc := 927) hx hb hX hbl hbA hS v3 dL_law_927 ?_
  rw [e3]
  obtain ⟨r, σ1, τ1, h8, h9, hI1⟩ := op_sheet j σ τ a1 a2 a3 hI (by omega)
  refine lw_call (S1 := SC) (S2 := SM) (ad1 := adC) (ad2 := adM) (σ := σ) (σ1 := σ1) (τ := τ) (As := [.int a1, .int a2, .int a3]) (v := (some (.int r))) (rest := []) (ci := 8) hx hb hml hown hts hN hK hDC hap hA hPC hPM hS hl.1 dL_law_928 ⟨cd_X8_sheet, im_X8_sheet, se_X8_sheet, ini_X8⟩ ml_L_103 (A8_sheet a1 a2 a3 σ _ h8) rfl rfl ⟨rfl, pd_X8_sheet⟩ ⟨Nat.le_of_ble_eq_true rfl, Nat.le_of_ble_eq_true rfl⟩ ⟨rfl, rfl⟩ ⟨Nat.le_of_ble_eq_true rfl, Nat.le_of_ble_eq_true rfl⟩ rfl rfl rfl (Nat.le_of_ble_eq_true rfl) (fun H locs hPC hPM hS => ?_)
  refine lv_aload_n (pc := 931) hx hb dL_law_931 rfl (lv_at hl 2 rfl) ?_
  refine lv_aload_n (pc := 932) hx hb dL_law_932 rfl (lv_at hl 0 rfl) ?_
  refine lv_iload_n (pc := 933) hx hb dL_law_933 rfl (lv_at hl 3 rfl) ?_
  refine lv_iconst (pc := 934) (v := 1) hx hb dL_law_934 (by decide) ?_
  refine lv_iadd (pc := 935) hx hb dL_law_935 ?_
  refine va_sld (pc := 936) hx hb hX hbl hbA hS v1 dL_law_936 ?_
  rw [e1]
  refine lv_aload_n (pc := 937) hx hb dL_law_937 rfl (lv_at hl 0 rfl) ?_
  refine lv_iload_n (pc := 938) hx hb dL_law_938 rfl (lv_at hl 3 rfl) ?_
  refine lv_iconst (pc := 939) (v := 2) hx hb dL_law_939 (by decide) ?_
  refine lv_iadd (pc := 940) hx hb dL_law_940 ?_
  refine va_sld (pc := 941) hx hb hX hbl hbA hS v2 dL_law_941 ?_
  rw [e2]
  refine lv_aload_n (pc := 942) hx hb dL_law_942 rfl (lv_at hl 0 rfl) ?_
  refine lv_iload_n (pc := 943) hx hb dL_law_943 rfl (lv_at hl 3 rfl) ?_
  refine lv_iconst (pc := 944) (v := 3) hx hb dL_law_944 (by decide) ?_
  refine lv_iadd (pc := 945) hx hb dL_law_945 ?_
  refine va_sld (pc := 946) hx hb hX hbl hbA hS v3 dL_law_946 ?_
  rw [e3]
  refine lw_call (S1 := SM) (S2 := SC) (ad1 := adM) (ad2 := adC) (σ := τ) (σ1 := τ1) (τ := σ1) (As := [.int a1, .int a2, .int a3]) (v := (some (.int r))) (rest := [.int r]) (ci := 9) hx hb hml hown hts hN hK hDM hap2 hA hPM hPC hS hl.1 dL_law_947 ⟨cd_X9_sheet, im_X9_sheet, se_X9_sheet, ini_X9⟩ ml_L_106 (A9_sheet a1 a2 a3 τ _ h9) rfl rfl ⟨rfl, pd_X9_sheet⟩ ⟨Nat.le_of_ble_eq_true rfl, Nat.le_of_ble_eq_true rfl⟩ ⟨rfl, rfl⟩ ⟨Nat.le_of_ble_eq_true rfl, Nat.le_of_ble_eq_true rfl⟩ rfl rfl rfl (Nat.le_of_ble_eq_true rfl) (fun H locs hPM hPC hS => ?_)
  refine lv_icmp_eq (pc := 950) (tgt := 1256) hx hb dL_law_950 (by decide) (fun _ => ?_) (fun cj => absurd rfl cj)
  exact hend σ1 τ1 hI1 H locs hPC hPM hS
set_option maxHeartbeats 4000000 in
set_option maxRecDepth 100000 in
theorem law_case22 {p : Program} {l : Launch} {e : Env} {s : State} {m : MethodId} {below : List Frame} {meth : Method} {c : Code} {D : va_G} {cI cL : ClassId} {adC adM : Nat → Nat} {b L : Nat} {xs : Nat → Int32} (hx : p.tables.exec = Jvm.exec) (hb : c.code = code) (hml : c.maxLocals = 4) (hown : s.vm.findClass RL = some m.cls) (hts : ∀ w ∈ lw_tbl, w.before #[Value.ref b] s = true) (hN : NW s) (hK : va_K D vwCl [(cI, .int), (cL, .long)] s) (hX : va_X b L xs s s.heap) (hbl : b < s.heap.size)
    (hDC : va_D (fun q : Nat => s.heap.size ≤ q) (wd SC cI cL adC zHS)) (hDM : va_D (fun q : Nat => s.heap.size ≤ q) (wd SM cI cL adM zHS)) (hap : Apart2 SC SM cI cL adC adM) (hap2 : Apart2 SM SC cI cL adM adC)
    {Q : State → Prop} (j : Nat) (hj : j < 512) (σ τ : HS) (hI : Inv j σ τ) (H : Heap) (locs : List Loc) (hPC : va_P D vwCl (wd SC cI cL adC σ) H) (hPM : va_P D vwCl (wd SM cI cL adM τ) H) (hS : va_S (fun q : Nat => s.heap.size ≤ q) s.heap H locs) (x3 a1 a2 a3 a4 a5 : Int32) (v1 : vp_in (x3 + 1) L) (v2 : vp_in (x3 + 2) L) (v3 : vp_in (x3 + 3) L) (v4 : vp_in (x3 + 4) L) (v5 : vp_in (x3 + 5) L) (e1 : xs (x3 + 1).toNatClampNeg = a1) (e2 : xs (x3 + 2).toNatClampNeg = a2) (e3 : xs (x3 + 3).toNatClampNeg = a3) (e4 : xs (x3 + 4).toNatClampNeg = a4) (e5 : xs (x3 + 5).toNatClampNeg = a5) (ls : Array Slot) (hl : lv_has ls 4 [(0, .ref b), (1, .ref (adC 0)), (2, .ref (adM 0)), (3, .int x3)])
    (hend : ∀ (σ1 τ1 : HS), Inv (j + 1) σ1 τ1 → ∀ (H : Heap) (locs : List Loc), va_P D vwCl (wd SC cI cL adC σ1) H → va_P D vwCl (wd SM cI cL adM τ1) H → va_S (fun q : Nat => s.heap.size ≤ q) s.heap H locs → W p l e room_1 s m #[Value.ref b] below meth c H locs 72 10389 Q (F0 m 1256 ls [])) :
    W p l e room_1 s m #[Value.ref b] below meth c H locs 72 10389 Q (F0 m 955 ls []) := by
  have hA : ∀ q : Nat, s.heap.size ≤ q → (fun q : Nat => s.heap.size ≤ q) q := fun _ h => h
  have hbA : ¬ (fun q : Nat => s.heap.size ≤ q) b := Nat.not_le.mpr hbl
  refine lv_aload_n (pc := 955) hx hb dL_law_955 rfl (lv_at hl 1 rfl) ?_
  refine lv_aload_n (pc := 956) hx hb dL_law_956 rfl (lv_at hl 0 rfl) ?_
  refine lv_iload_n (pc := 957) hx hb dL_law_957 rfl (lv_at hl 3 rfl) ?_
  refine lv_iconst (pc := 958) (v := 1) hx hb dL_law_958 (by decide) ?_
  refine lv_iadd (pc := 959) hx hb dL_law_959 ?_
  refine va_sld (pc := 960) hx hb hX hbl hbA hS v1 dL_law_960 ?_
  rw [e1]
  obtain ⟨r, σ1, τ1, h8, h9, hI1⟩ := op_lose j σ τ a1 hI (by omega)
  refine lw_call (S1 := SC) (S2 := SM) (ad1 := adC) (ad2 := adM) (σ := σ) (σ1 := σ1) (τ := τ) (As := [.int a1]) (v := (some (.int r))) (rest := []) (ci := 8) hx hb hml hown hts hN hK hDC hap hA hPC hPM hS hl.1 dL_law_961 ⟨cd_X8_lose, im_X8_lose, se_X8_lose, ini_X8⟩ ml_L_107 (A8_lose a1 σ _ h8) rfl rfl ⟨rfl, pd_X8_lose⟩ ⟨Nat.le_of_ble_eq_true rfl, Nat.le_of_ble_eq_true rfl⟩ ⟨rfl, rfl⟩ ⟨Nat.le_of_ble_eq_true rfl, Nat.le_of_ble_eq_true rfl⟩ rfl rfl rfl (Nat.le_of_ble_eq_true rfl) (fun H locs hPC hPM hS => ?_)
  refine lv_aload_n (pc := 964) hx hb dL_law_964 rfl (lv_at hl 2 rfl) ?_
  refine lv_aload_n (pc := 965) hx hb dL_law_965 rfl (lv_at hl 0 rfl) ?_
  refine lv_iload_n (pc := 966) hx hb dL_law_966 rfl (lv_at hl 3 rfl) ?_
  refine lv_iconst (pc := 967) (v := 1) hx hb dL_law_967 (by decide) ?_
  refine lv_iadd (pc := 968) hx hb dL_law_968 ?_
  refine va_sld (pc := 969) hx hb hX hbl hbA hS v1 dL_law_969 ?_
  rw [e1]
  refine lw_call (S1 := SM) (S2 := SC) (ad1 := adM) (ad2 := adC) (σ := τ) (σ1 := τ1) (τ := σ1) (As := [.int a1]) (v := (some (.int r))) (rest := [.int r]) (ci := 9) hx hb hml hown hts hN hK hDM hap2 hA hPM hPC hS hl.1 dL_law_970 ⟨cd_X9_lose, im_X9_lose, se_X9_lose, ini_X9⟩ ml_L_110 (A9_lose a1 τ _ h9) rfl rfl ⟨rfl, pd_X9_lose⟩ ⟨Nat.le_of_ble_eq_true rfl, Nat.le_of_ble_eq_true rfl⟩ ⟨rfl, rfl⟩ ⟨Nat.le_of_ble_eq_true rfl, Nat.le_of_ble_eq_true rfl⟩ rfl rfl rfl (Nat.le_of_ble_eq_true rfl) (fun H locs hPM hPC hS => ?_)
  refine lv_icmp_eq (pc := 973) (tgt := 1256) hx hb dL_law_973 (by decide) (fun _ => ?_) (fun cj => absurd rfl cj)
  exact hend σ1 τ1 hI1 H locs hPC hPM hS
set_option maxHeartbeats 4000000 in
set_option maxRecDepth 100000 in
theorem law_case23 {p : Program} {l : Launch} {e : Env} {s : State} {m : MethodId} {below : List Frame} {meth : Method} {c : Code} {D : va_G} {cI cL : ClassId} {adC adM : Nat → Nat} {b L : Nat} {xs : Nat → Int32} (hx : p.tables.exec = Jvm.exec) (hb : c.code = code) (hml : c.maxLocals = 4) (hown : s.vm.findClass RL = some m.cls) (hts : ∀ w ∈ lw_tbl, w.before #[Value.ref b] s = true) (hN : NW s) (hK : va_K D vwCl [(cI, .int), (cL, .long)] s) (hX : va_X b L xs s s.heap) (hbl : b < s.heap.size)
    (hDC : va_D (fun q : Nat => s.heap.size ≤ q) (wd SC cI cL adC zHS)) (hDM : va_D (fun q : Nat => s.heap.size ≤ q) (wd SM cI cL adM zHS)) (hap : Apart2 SC SM cI cL adC adM) (hap2 : Apart2 SM SC cI cL adM adC)
    {Q : State → Prop} (j : Nat) (hj : j < 512) (σ τ : HS) (hI : Inv j σ τ) (H : Heap) (locs : List Loc) (hPC : va_P D vwCl (wd SC cI cL adC σ) H) (hPM : va_P D vwCl (wd SM cI cL adM τ) H) (hS : va_S (fun q : Nat => s.heap.size ≤ q) s.heap H locs) (x3 a1 a2 a3 a4 a5 : Int32) (v1 : vp_in (x3 + 1) L) (v2 : vp_in (x3 + 2) L) (v3 : vp_in (x3 + 3) L) (v4 : vp_in (x3 + 4) L) (v5 : vp_in (x3 + 5) L) (e1 : xs (x3 + 1).toNatClampNeg = a1) (e2 : xs (x3 + 2).toNatClampNeg = a2) (e3 : xs (x3 + 3).toNatClampNeg = a3) (e4 : xs (x3 + 4).toNatClampNeg = a4) (e5 : xs (x3 + 5).toNatClampNeg = a5) (ls : Array Slot) (hl : lv_has ls 4 [(0, .ref b), (1, .ref (adC 0)), (2, .ref (adM 0)), (3, .int x3)])
    (hend : ∀ (σ1 τ1 : HS), Inv (j + 1) σ1 τ1 → ∀ (H : Heap) (locs : List Loc), va_P D vwCl (wd SC cI cL adC σ1) H → va_P D vwCl (wd SM cI cL adM τ1) H → va_S (fun q : Nat => s.heap.size ≤ q) s.heap H locs → W p l e room_1 s m #[Value.ref b] below meth c H locs 72 10389 Q (F0 m 1256 ls [])) :
    W p l e room_1 s m #[Value.ref b] below meth c H locs 72 10389 Q (F0 m 978 ls []) := by
  have hA : ∀ q : Nat, s.heap.size ≤ q → (fun q : Nat => s.heap.size ≤ q) q := fun _ h => h
  have hbA : ¬ (fun q : Nat => s.heap.size ≤ q) b := Nat.not_le.mpr hbl
  refine lv_aload_n (pc := 978) hx hb dL_law_978 rfl (lv_at hl 1 rfl) ?_
  refine lv_aload_n (pc := 979) hx hb dL_law_979 rfl (lv_at hl 0 rfl) ?_
  refine lv_iload_n (pc := 980) hx hb dL_law_980 rfl (lv_at hl 3 rfl) ?_
  refine lv_iconst (pc := 981) (v := 1) hx hb dL_law_981 (by decide) ?_
  refine lv_iadd (pc := 982) hx hb dL_law_982 ?_
  refine va_sld (pc := 983) hx hb hX hbl hbA hS v1 dL_law_983 ?_
  rw [e1]
  refine lv_aload_n (pc := 984) hx hb dL_law_984 rfl (lv_at hl 0 rfl) ?_
  refine lv_iload_n (pc := 985) hx hb dL_law_985 rfl (lv_at hl 3 rfl) ?_
  refine lv_iconst (pc := 986) (v := 2) hx hb dL_law_986 (by decide) ?_
  refine lv_iadd (pc := 987) hx hb dL_law_987 ?_
  refine va_sld (pc := 988) hx hb hX hbl hbA hS v2 dL_law_988 ?_
  rw [e2]
  refine lv_aload_n (pc := 989) hx hb dL_law_989 rfl (lv_at hl 0 rfl) ?_
  refine lv_iload_n (pc := 990) hx hb dL_law_990 rfl (lv_at hl 3 rfl) ?_
  refine lv_iconst (pc := 991) (v := 3) hx hb dL_law_991 (by decide) ?_
  refine lv_iadd (pc := 992) hx hb dL_law_992 ?_
  refine va_sld (pc := 993) hx hb hX hbl hbA hS v3 dL_law_993 ?_
  rw [e3]
  obtain ⟨r, σ1, τ1, h8, h9, hI1⟩ := op_put j σ τ a1 a2 a3 hI (by omega)
  refine lw_call (S1 := SC) (S2 := SM) (ad1 := adC) (ad2 := adM) (σ := σ) (σ1 := σ1) (τ := τ) (As := [.int a1, .int a2, .int a3]) (v := (some (.int r))) (rest := []) (ci := 8) hx hb hml hown hts hN hK hDC hap hA hPC hPM hS hl.1 dL_law_994 ⟨cd_X8_put, im_X8_put, se_X8_put, ini_X8⟩ ml_L_111 (A8_put a1 a2 a3 σ _ h8) rfl rfl ⟨rfl, pd_X8_put⟩ ⟨Nat.le_of_ble_eq_true rfl, Nat.le_of_ble_eq_true rfl⟩ ⟨rfl, rfl⟩ ⟨Nat.le_of_ble_eq_true rfl, Nat.le_of_ble_eq_true rfl⟩ rfl rfl rfl (Nat.le_of_ble_eq_true rfl) (fun H locs hPC hPM hS => ?_)
  refine lv_aload_n (pc := 997) hx hb dL_law_997 rfl (lv_at hl 2 rfl) ?_
  refine lv_aload_n (pc := 998) hx hb dL_law_998 rfl (lv_at hl 0 rfl) ?_
  refine lv_iload_n (pc := 999) hx hb dL_law_999 rfl (lv_at hl 3 rfl) ?_
  refine lv_iconst (pc := 1000) (v := 1) hx hb dL_law_1000 (by decide) ?_
  refine lv_iadd (pc := 1001) hx hb dL_law_1001 ?_
  refine va_sld (pc := 1002) hx hb hX hbl hbA hS v1 dL_law_1002 ?_
  rw [e1]
  refine lv_aload_n (pc := 1003) hx hb dL_law_1003 rfl (lv_at hl 0 rfl) ?_
  refine lv_iload_n (pc := 1004) hx hb dL_law_1004 rfl (lv_at hl 3 rfl) ?_
  refine lv_iconst (pc := 1005) (v := 2) hx hb dL_law_1005 (by decide) ?_
  refine lv_iadd (pc := 1006) hx hb dL_law_1006 ?_
  refine va_sld (pc := 1007) hx hb hX hbl hbA hS v2 dL_law_1007 ?_
  rw [e2]
  refine lv_aload_n (pc := 1008) hx hb dL_law_1008 rfl (lv_at hl 0 rfl) ?_
  refine lv_iload_n (pc := 1009) hx hb dL_law_1009 rfl (lv_at hl 3 rfl) ?_
  refine lv_iconst (pc := 1010) (v := 3) hx hb dL_law_1010 (by decide) ?_
  refine lv_iadd (pc := 1011) hx hb dL_law_1011 ?_
  refine va_sld (pc := 1012) hx hb hX hbl hbA hS v3 dL_law_1012 ?_
  rw [e3]
  refine lw_call (S1 := SM) (S2 := SC) (ad1 := adM) (ad2 := adC) (σ := τ) (σ1 := τ1) (τ := σ1) (As := [.int a1, .int a2, .int a3]) (v := (some (.int r))) (rest := [.int r]) (ci := 9) hx hb hml hown hts hN hK hDM hap2 hA hPM hPC hS hl.1 dL_law_1013 ⟨cd_X9_put, im_X9_put, se_X9_put, ini_X9⟩ ml_L_114 (A9_put a1 a2 a3 τ _ h9) rfl rfl ⟨rfl, pd_X9_put⟩ ⟨Nat.le_of_ble_eq_true rfl, Nat.le_of_ble_eq_true rfl⟩ ⟨rfl, rfl⟩ ⟨Nat.le_of_ble_eq_true rfl, Nat.le_of_ble_eq_true rfl⟩ rfl rfl rfl (Nat.le_of_ble_eq_true rfl) (fun H locs hPM hPC hS => ?_)
  refine lv_icmp_eq (pc := 1016) (tgt := 1256) hx hb dL_law_1016 (by decide) (fun _ => ?_) (fun cj => absurd rfl cj)
  exact hend σ1 τ1 hI1 H locs hPC hPM hS
set_option maxHeartbeats 4000000 in
set_option maxRecDepth 100000 in
theorem law_case24 {p : Program} {l : Launch} {e : Env} {s : State} {m : MethodId} {below : List Frame} {meth : Method} {c : Code} {D : va_G} {cI cL : ClassId} {adC adM : Nat → Nat} {b L : Nat} {xs : Nat → Int32} (hx : p.tables.exec = Jvm.exec) (hb : c.code = code) (hml : c.maxLocals = 4) (hown : s.vm.findClass RL = some m.cls) (hts : ∀ w ∈ lw_tbl, w.before #[Value.ref b] s = true) (hN : NW s) (hK : va_K D vwCl [(cI, .int), (cL, .long)] s) (hX : va_X b L xs s s.heap) (hbl : b < s.heap.size)
    (hDC : va_D (fun q : Nat => s.heap.size ≤ q) (wd SC cI cL adC zHS)) (hDM : va_D (fun q : Nat => s.heap.size ≤ q) (wd SM cI cL adM zHS)) (hap : Apart2 SC SM cI cL adC adM) (hap2 : Apart2 SM SC cI cL adM adC)
    {Q : State → Prop} (j : Nat) (hj : j < 512) (σ τ : HS) (hI : Inv j σ τ) (H : Heap) (locs : List Loc) (hPC : va_P D vwCl (wd SC cI cL adC σ) H) (hPM : va_P D vwCl (wd SM cI cL adM τ) H) (hS : va_S (fun q : Nat => s.heap.size ≤ q) s.heap H locs) (x3 a1 a2 a3 a4 a5 : Int32) (v1 : vp_in (x3 + 1) L) (v2 : vp_in (x3 + 2) L) (v3 : vp_in (x3 + 3) L) (v4 : vp_in (x3 + 4) L) (v5 : vp_in (x3 + 5) L) (e1 : xs (x3 + 1).toNatClampNeg = a1) (e2 : xs (x3 + 2).toNatClampNeg = a2) (e3 : xs (x3 + 3).toNatClampNeg = a3) (e4 : xs (x3 + 4).toNatClampNeg = a4) (e5 : xs (x3 + 5).toNatClampNeg = a5) (ls : Array Slot) (hl : lv_has ls 4 [(0, .ref b), (1, .ref (adC 0)), (2, .ref (adM 0)), (3, .int x3)])
    (hend : ∀ (σ1 τ1 : HS), Inv (j + 1) σ1 τ1 → ∀ (H : Heap) (locs : List Loc), va_P D vwCl (wd SC cI cL adC σ1) H → va_P D vwCl (wd SM cI cL adM τ1) H → va_S (fun q : Nat => s.heap.size ≤ q) s.heap H locs → W p l e room_1 s m #[Value.ref b] below meth c H locs 72 10389 Q (F0 m 1256 ls [])) :
    W p l e room_1 s m #[Value.ref b] below meth c H locs 72 10389 Q (F0 m 1021 ls []) := by
  have hA : ∀ q : Nat, s.heap.size ≤ q → (fun q : Nat => s.heap.size ≤ q) q := fun _ h => h
  have hbA : ¬ (fun q : Nat => s.heap.size ≤ q) b := Nat.not_le.mpr hbl
  refine lv_aload_n (pc := 1021) hx hb dL_law_1021 rfl (lv_at hl 1 rfl) ?_
  refine lv_aload_n (pc := 1022) hx hb dL_law_1022 rfl (lv_at hl 0 rfl) ?_
  refine lv_iload_n (pc := 1023) hx hb dL_law_1023 rfl (lv_at hl 3 rfl) ?_
  refine lv_iconst (pc := 1024) (v := 1) hx hb dL_law_1024 (by decide) ?_
  refine lv_iadd (pc := 1025) hx hb dL_law_1025 ?_
  refine va_sld (pc := 1026) hx hb hX hbl hbA hS v1 dL_law_1026 ?_
  rw [e1]
  refine lv_aload_n (pc := 1027) hx hb dL_law_1027 rfl (lv_at hl 0 rfl) ?_
  refine lv_iload_n (pc := 1028) hx hb dL_law_1028 rfl (lv_at hl 3 rfl) ?_
  refine lv_iconst (pc := 1029) (v := 2) hx hb dL_law_1029 (by decide) ?_
  refine lv_iadd (pc := 1030) hx hb dL_law_1030 ?_
  refine va_sld (pc := 1031) hx hb hX hbl hbA hS v2 dL_law_1031 ?_
  rw [e2]
  refine lv_aload_n (pc := 1032) hx hb dL_law_1032 rfl (lv_at hl 0 rfl) ?_
  refine lv_iload_n (pc := 1033) hx hb dL_law_1033 rfl (lv_at hl 3 rfl) ?_
  refine lv_iconst (pc := 1034) (v := 3) hx hb dL_law_1034 (by decide) ?_
  refine lv_iadd (pc := 1035) hx hb dL_law_1035 ?_
  refine va_sld (pc := 1036) hx hb hX hbl hbA hS v3 dL_law_1036 ?_
  rw [e3]
  obtain ⟨r, σ1, τ1, h8, h9, hI1⟩ := op_cell j σ τ a1 a2 a3 hI (by omega)
  refine lw_call (S1 := SC) (S2 := SM) (ad1 := adC) (ad2 := adM) (σ := σ) (σ1 := σ1) (τ := τ) (As := [.int a1, .int a2, .int a3]) (v := (some (.long r))) (rest := []) (ci := 8) hx hb hml hown hts hN hK hDC hap hA hPC hPM hS hl.1 dL_law_1037 ⟨cd_X8_cell, im_X8_cell, se_X8_cell, ini_X8⟩ ml_L_115 (A8_cell a1 a2 a3 σ _ h8) rfl rfl ⟨rfl, pd_X8_cell⟩ ⟨Nat.le_of_ble_eq_true rfl, Nat.le_of_ble_eq_true rfl⟩ ⟨rfl, rfl⟩ ⟨Nat.le_of_ble_eq_true rfl, Nat.le_of_ble_eq_true rfl⟩ rfl rfl rfl (Nat.le_of_ble_eq_true rfl) (fun H locs hPC hPM hS => ?_)
  refine lv_aload_n (pc := 1040) hx hb dL_law_1040 rfl (lv_at hl 2 rfl) ?_
  refine lv_aload_n (pc := 1041) hx hb dL_law_1041 rfl (lv_at hl 0 rfl) ?_
  refine lv_iload_n (pc := 1042) hx hb dL_law_1042 rfl (lv_at hl 3 rfl) ?_
  refine lv_iconst (pc := 1043) (v := 1) hx hb dL_law_1043 (by decide) ?_
  refine lv_iadd (pc := 1044) hx hb dL_law_1044 ?_
  refine va_sld (pc := 1045) hx hb hX hbl hbA hS v1 dL_law_1045 ?_
  rw [e1]
  refine lv_aload_n (pc := 1046) hx hb dL_law_1046 rfl (lv_at hl 0 rfl) ?_
  refine lv_iload_n (pc := 1047) hx hb dL_law_1047 rfl (lv_at hl 3 rfl) ?_
  refine lv_iconst (pc := 1048) (v := 2) hx hb dL_law_1048 (by decide) ?_
  refine lv_iadd (pc := 1049) hx hb dL_law_1049 ?_
  refine va_sld (pc := 1050) hx hb hX hbl hbA hS v2 dL_law_1050 ?_
  rw [e2]
  refine lv_aload_n (pc := 1051) hx hb dL_law_1051 rfl (lv_at hl 0 rfl) ?_
  refine lv_iload_n (pc := 1052) hx hb dL_law_1052 rfl (lv_at hl 3 rfl) ?_
  refine lv_iconst (pc := 1053) (v := 3) hx hb dL_law_1053 (by decide) ?_
  refine lv_iadd (pc := 1054) hx hb dL_law_1054 ?_
  refine va_sld (pc := 1055) hx hb hX hbl hbA hS v3 dL_law_1055 ?_
  rw [e3]
  refine lw_call (S1 := SM) (S2 := SC) (ad1 := adM) (ad2 := adC) (σ := τ) (σ1 := τ1) (τ := σ1) (As := [.int a1, .int a2, .int a3]) (v := (some (.long r))) (rest := [.long r]) (ci := 9) hx hb hml hown hts hN hK hDM hap2 hA hPM hPC hS hl.1 dL_law_1056 ⟨cd_X9_cell, im_X9_cell, se_X9_cell, ini_X9⟩ ml_L_119 (A9_cell a1 a2 a3 τ _ h9) rfl rfl ⟨rfl, pd_X9_cell⟩ ⟨Nat.le_of_ble_eq_true rfl, Nat.le_of_ble_eq_true rfl⟩ ⟨rfl, rfl⟩ ⟨Nat.le_of_ble_eq_true rfl, Nat.le_of_ble_eq_true rfl⟩ rfl rfl rfl (Nat.le_of_ble_eq_true rfl) (fun H locs hPM hPC hS => ?_)
  refine W.lcmp (pc := 1059) hx hb dL_law_1059 ?_
  rw [lgc_eq]
  refine lv_if_eq (pc := 1060) (tgt := 1256) hx hb dL_law_1060 (by decide) (fun _ => ?_) (fun cj => absurd rfl cj)
  exact hend σ1 τ1 hI1 H locs hPC hPM hS
set_option maxHeartbeats 4000000 in
set_option maxRecDepth 100000 in
theorem law_case25 {p : Program} {l : Launch} {e : Env} {s : State} {m : MethodId} {below : List Frame} {meth : Method} {c : Code} {D : va_G} {cI cL : ClassId} {adC adM : Nat → Nat} {b L : Nat} {xs : Nat → Int32} (hx : p.tables.exec = Jvm.exec) (hb : c.code = code) (hml : c.maxLocals = 4) (hown : s.vm.findClass RL = some m.cls) (hts : ∀ w ∈ lw_tbl, w.before #[Value.ref b] s = true) (hN : NW s) (hK : va_K D vwCl [(cI, .int), (cL, .long)] s) (hX : va_X b L xs s s.heap) (hbl : b < s.heap.size)
    (hDC : va_D (fun q : Nat => s.heap.size ≤ q) (wd SC cI cL adC zHS)) (hDM : va_D (fun q : Nat => s.heap.size ≤ q) (wd SM cI cL adM zHS)) (hap : Apart2 SC SM cI cL adC adM) (hap2 : Apart2 SM SC cI cL adM adC)
    {Q : State → Prop} (j : Nat) (hj : j < 512) (σ τ : HS) (hI : Inv j σ τ) (H : Heap) (locs : List Loc) (hPC : va_P D vwCl (wd SC cI cL adC σ) H) (hPM : va_P D vwCl (wd SM cI cL adM τ) H) (hS : va_S (fun q : Nat => s.heap.size ≤ q) s.heap H locs) (x3 a1 a2 a3 a4 a5 : Int32) (v1 : vp_in (x3 + 1) L) (v2 : vp_in (x3 + 2) L) (v3 : vp_in (x3 + 3) L) (v4 : vp_in (x3 + 4) L) (v5 : vp_in (x3 + 5) L) (e1 : xs (x3 + 1).toNatClampNeg = a1) (e2 : xs (x3 + 2).toNatClampNeg = a2) (e3 : xs (x3 + 3).toNatClampNeg = a3) (e4 : xs (x3 + 4).toNatClampNeg = a4) (e5 : xs (x3 + 5).toNatClampNeg = a5) (ls : Array Slot) (hl : lv_has ls 4 [(0, .ref b), (1, .ref (adC 0)), (2, .ref (adM 0)), (3, .int x3)])
    (hend : ∀ (σ1 τ1 : HS), Inv (j + 1) σ1 τ1 → ∀ (H : Heap) (locs : List Loc), va_P D vwCl (wd SC cI cL adC σ1) H → va_P D vwCl (wd SM cI cL adM τ1) H → va_S (fun q : Nat => s.heap.size ≤ q) s.heap H locs → W p l e room_1 s m #[Value.ref b] below meth c H locs 72 10389 Q (F0 m 1256 ls [])) :
    W p l e room_1 s m #[Value.ref b] below meth c H locs 72 10389 Q (F0 m 1065 ls []) := by
  have hA : ∀ q : Nat, s.heap.size ≤ q → (fun q : Nat => s.heap.size ≤ q) q := fun _ h => h
  have hbA : ¬ (fun q : Nat => s.heap.size ≤ q) b := Nat.not_le.mpr hbl
  refine lv_aload_n (pc := 1065) hx hb dL_law_1065 rfl (lv_at hl 1 rfl) ?_
  refine lv_aload_n (pc := 1066) hx hb dL_law_1066 rfl (lv_at hl 0 rfl) ?_
  refine lv_iload_n (pc := 1067) hx hb dL_law_1067 rfl (lv_at hl 3 rfl) ?_
  refine lv_iconst (pc := 1068) (v := 1) hx hb dL_law_1068 (by decide) ?_
  refine lv_iadd (pc := 1069) hx hb dL_law_1069 ?_
  refine va_sld (pc := 1070) hx hb hX hbl hbA hS v1 dL_law_1070 ?_
  rw [e1]
  refine lv_aload_n (pc := 1071) hx hb dL_law_1071 rfl (lv_at hl 0 rfl) ?_
  refine lv_iload_n (pc := 1072) hx hb dL_law_1072 rfl (lv_at hl 3 rfl) ?_
  refine lv_iconst (pc := 1073) (v := 2) hx hb dL_law_1073 (by decide) ?_
  refine lv_iadd (pc := 1074) hx hb dL_law_1074 ?_
  refine va_sld (pc := 1075) hx hb hX hbl hbA hS v2 dL_law_1075 ?_
  rw [e2]
  refine lv_aload_n (pc := 1076) hx hb dL_law_1076 rfl (lv_at hl 0 rfl) ?_
  refine lv_iload_n (pc := 1077) hx hb dL_law_1077 rfl (lv_at hl 3 rfl) ?_
  refine lv_iconst (pc := 1078) (v := 3) hx hb dL_law_1078 (by decide) ?_
  refine lv_iadd (pc := 1079) hx hb dL_law_1079 ?_
  refine va_sld (pc := 1080) hx hb hX hbl hbA hS v3 dL_law_1080 ?_
  rw [e3]
  refine lv_aload_n (pc := 1081) hx hb dL_law_1081 rfl (lv_at hl 0 rfl) ?_
  refine lv_iload_n (pc := 1082) hx hb dL_law_1082 rfl (lv_at hl 3 rfl) ?_
  refine lv_iconst (pc := 1083) (v := 4) hx hb dL_law_1083 (by decide) ?_
  refine lv_iadd (pc := 1084) hx hb dL_law_1084 ?_
  refine va_sld (pc := 1085) hx hb hX hbl hbA hS v4 dL_law_1085 ?_
  rw [e4]
  refine lv_aload_n (pc := 1086) hx hb dL_law_1086 rfl (lv_at hl 0 rfl) ?_
  refine lv_iload_n (pc := 1087) hx hb dL_law_1087 rfl (lv_at hl 3 rfl) ?_
  refine lv_iconst (pc := 1088) (v := 5) hx hb dL_law_1088 (by decide) ?_
  refine lv_iadd (pc := 1089) hx hb dL_law_1089 ?_
  refine va_sld (pc := 1090) hx hb hX hbl hbA hS v5 dL_law_1090 ?_
  rw [e5]
  obtain ⟨r, σ1, τ1, h8, h9, hI1⟩ := op_copy j σ τ a1 a2 a3 a4 a5 hI (by omega)
  refine lw_call (S1 := SC) (S2 := SM) (ad1 := adC) (ad2 := adM) (σ := σ) (σ1 := σ1) (τ := τ) (As := [.int a1, .int a2, .int a3, .int a4, .int a5]) (v := (some (.int r))) (rest := []) (ci := 8) hx hb hml hown hts hN hK hDC hap hA hPC hPM hS hl.1 dL_law_1091 ⟨cd_X8_copy, im_X8_copy, se_X8_copy, ini_X8⟩ ml_L_120 (A8_copy a1 a2 a3 a4 a5 σ _ h8) rfl rfl ⟨rfl, pd_X8_copy⟩ ⟨Nat.le_of_ble_eq_true rfl, Nat.le_of_ble_eq_true rfl⟩ ⟨rfl, rfl⟩ ⟨Nat.le_of_ble_eq_true rfl, Nat.le_of_ble_eq_true rfl⟩ rfl rfl rfl (Nat.le_of_ble_eq_true rfl) (fun H locs hPC hPM hS => ?_)
  refine lv_aload_n (pc := 1094) hx hb dL_law_1094 rfl (lv_at hl 2 rfl) ?_
  refine lv_aload_n (pc := 1095) hx hb dL_law_1095 rfl (lv_at hl 0 rfl) ?_
  refine lv_iload_n (pc := 1096) hx hb dL_law_1096 rfl (lv_at hl 3 rfl) ?_
  refine lv_iconst (pc := 1097) (v := 1) hx hb dL_law_1097 (by decide) ?_
  refine lv_iadd (pc := 1098) hx hb dL_law_1098 ?_
  refine va_sld (pc := 1099) hx hb hX hbl hbA hS v1 dL_law_1099 ?_
  rw [e1]
  refine lv_aload_n (pc := 1100) hx hb dL_law_1100 rfl (lv_at hl 0 rfl) ?_
  refine lv_iload_n (pc := 1101) hx hb dL_law_1101 rfl (lv_at hl 3 rfl) ?_
  refine lv_iconst (pc := 1102) (v := 2) hx hb dL_law_1102 (by decide) ?_
  refine lv_iadd (pc := 1103) hx hb dL_law_1103 ?_
  refine va_sld (pc := 1104) hx hb hX hbl hbA hS v2 dL_law_1104 ?_
  rw [e2]
  refine lv_aload_n (pc := 1105) hx hb dL_law_1105 rfl (lv_at hl 0 rfl) ?_
  refine lv_iload_n (pc := 1106) hx hb dL_law_1106 rfl (lv_at hl 3 rfl) ?_
  refine lv_iconst (pc := 1107) (v := 3) hx hb dL_law_1107 (by decide) ?_
  refine lv_iadd (pc := 1108) hx hb dL_law_1108 ?_
  refine va_sld (pc := 1109) hx hb hX hbl hbA hS v3 dL_law_1109 ?_
  rw [e3]
  refine lv_aload_n (pc := 1110) hx hb dL_law_1110 rfl (lv_at hl 0 rfl) ?_
  refine lv_iload_n (pc := 1111) hx hb dL_law_1111 rfl (lv_at hl 3 rfl) ?_
  refine lv_iconst (pc := 1112) (v := 4) hx hb dL_law_1112 (by decide) ?_
  refine lv_iadd (pc := 1113) hx hb dL_law_1113 ?_
  refine va_sld (pc := 1114) hx hb hX hbl hbA hS v4 dL_law_1114 ?_
  rw [e4]
  refine lv_aload_n (pc := 1115) hx hb dL_law_1115 rfl (lv_at hl 0 rfl) ?_
  refine lv_iload_n (pc := 1116) hx hb dL_law_1116 rfl (lv_at hl 3 rfl) ?_
  refine lv_iconst (pc := 1117) (v := 5) hx hb dL_law_1117 (by decide) ?_
  refine lv_iadd (pc := 1118) hx hb dL_law_1118 ?_
  refine va_sld (pc := 1119) hx hb hX hbl hbA hS v5 dL_law_1119 ?_
  rw [e5]
  refine lw_call (S1 := SM) (S2 := SC) (ad1 := adM) (ad2 := adC) (σ := τ) (σ1 := τ1) (τ := σ1) (As := [.int a1, .int a2, .int a3, .int a4, .int a5]) (v := (some (.int r))) (rest := [.int r]) (ci := 9) hx hb hml hown hts hN hK hDM hap2 hA hPM hPC hS hl.1 dL_law_1120 ⟨cd_X9_copy, im_X9_copy, se_X9_copy, ini_X9⟩ ml_L_123 (A9_copy a1 a2 a3 a4 a5 τ _ h9) rfl rfl ⟨rfl, pd_X9_copy⟩ ⟨Nat.le_of_ble_eq_true rfl, Nat.le_of_ble_eq_true rfl⟩ ⟨rfl, rfl⟩ ⟨Nat.le_of_ble_eq_true rfl, Nat.le_of_ble_eq_true rfl⟩ rfl rfl rfl (Nat.le_of_ble_eq_true rfl) (fun H locs hPM hPC hS => ?_)
  refine lv_icmp_eq (pc := 1123) (tgt := 1256) hx hb dL_law_1123 (by decide) (fun _ => ?_) (fun cj => absurd rfl cj)
  exact hend σ1 τ1 hI1 H locs hPC hPM hS
set_option maxHeartbeats 4000000 in
set_option maxRecDepth 100000 in
theorem law_case26 {p : Program} {l : Launch} {e : Env} {s : State} {m : MethodId} {below : List Frame} {meth : Method} {c : Code} {D : va_G} {cI cL : ClassId} {adC adM : Nat → Nat} {b L : Nat} {xs : Nat → Int32} (hx : p.tables.exec = Jvm.exec) (hb : c.code = code) (hml : c.maxLocals = 4) (hown : s.vm.findClass RL = some m.cls) (hts : ∀ w ∈ lw_tbl, w.before #[Value.ref b] s = true) (hN : NW s) (hK : va_K D vwCl [(cI, .int), (cL, .long)] s) (hX : va_X b L xs s s.heap) (hbl : b < s.heap.size)
    (hDC : va_D (fun q : Nat => s.heap.size ≤ q) (wd SC cI cL adC zHS)) (hDM : va_D (fun q : Nat => s.heap.size ≤ q) (wd SM cI cL adM zHS)) (hap : Apart2 SC SM cI cL adC adM) (hap2 : Apart2 SM SC cI cL adM adC)
    {Q : State → Prop} (j : Nat) (hj : j < 512) (σ τ : HS) (hI : Inv j σ τ) (H : Heap) (locs : List Loc) (hPC : va_P D vwCl (wd SC cI cL adC σ) H) (hPM : va_P D vwCl (wd SM cI cL adM τ) H) (hS : va_S (fun q : Nat => s.heap.size ≤ q) s.heap H locs) (x3 a1 a2 a3 a4 a5 : Int32) (v1 : vp_in (x3 + 1) L) (v2 : vp_in (x3 + 2) L) (v3 : vp_in (x3 + 3) L) (v4 : vp_in (x3 + 4) L) (v5 : vp_in (x3 + 5) L) (e1 : xs (x3 + 1).toNatClampNeg = a1) (e2 : xs (x3 + 2).toNatClampNeg = a2) (e3 : xs (x3 + 3).toNatClampNeg = a3) (e4 : xs (x3 + 4).toNatClampNeg = a4) (e5 : xs (x3 + 5).toNatClampNeg = a5) (ls : Array Slot) (hl : lv_has ls 4 [(0, .ref b), (1, .ref (adC 0)), (2, .ref (adM 0)), (3, .int x3)])
    (hend : ∀ (σ1 τ1 : HS), Inv (j + 1) σ1 τ1 → ∀ (H : Heap) (locs : List Loc), va_P D vwCl (wd SC cI cL adC σ1) H → va_P D vwCl (wd SM cI cL adM τ1) H → va_S (fun q : Nat => s.heap.size ≤ q) s.heap H locs → W p l e room_1 s m #[Value.ref b] below meth c H locs 72 10389 Q (F0 m 1256 ls [])) :
    W p l e room_1 s m #[Value.ref b] below meth c H locs 72 10389 Q (F0 m 1128 ls []) := by
  have hA : ∀ q : Nat, s.heap.size ≤ q → (fun q : Nat => s.heap.size ≤ q) q := fun _ h => h
  have hbA : ¬ (fun q : Nat => s.heap.size ≤ q) b := Nat.not_le.mpr hbl
  refine lv_aload_n (pc := 1128) hx hb dL_law_1128 rfl (lv_at hl 1 rfl) ?_
  refine lv_aload_n (pc := 1129) hx hb dL_law_1129 rfl (lv_at hl 0 rfl) ?_
  refine lv_iload_n (pc := 1130) hx hb dL_law_1130 rfl (lv_at hl 3 rfl) ?_
  refine lv_iconst (pc := 1131) (v := 1) hx hb dL_law_1131 (by decide) ?_
  refine lv_iadd (pc := 1132) hx hb dL_law_1132 ?_
  refine va_sld (pc := 1133) hx hb hX hbl hbA hS v1 dL_law_1133 ?_
  rw [e1]
  obtain ⟨r, σ1, τ1, h8, h9, hI1⟩ := op_tell j σ τ a1 hI (by omega)
  refine lw_call (S1 := SC) (S2 := SM) (ad1 := adC) (ad2 := adM) (σ := σ) (σ1 := σ1) (τ := τ) (As := [.int a1]) (v := (some (.int r))) (rest := []) (ci := 8) hx hb hml hown hts hN hK hDC hap hA hPC hPM hS hl.1 dL_law_1134 ⟨cd_X8_tell, im_X8_tell, se_X8_tell, ini_X8⟩ ml_L_124 (A8_tell a1 σ _ h8) rfl rfl ⟨rfl, pd_X8_tell⟩ ⟨Nat.le_of_ble_eq_true rfl, Nat.le_of_ble_eq_true rfl⟩ ⟨rfl, rfl⟩ ⟨Nat.le_of_ble_eq_true rfl, Nat.le_of_ble_eq_true rfl⟩ rfl rfl rfl (Nat.le_of_ble_eq_true rfl) (fun H locs hPC hPM hS => ?_)
  refine lv_aload_n (pc := 1137) hx hb dL_law_1137 rfl (lv_at hl 2 rfl) ?_
  refine lv_aload_n (pc := 1138) hx hb dL_law_1138 rfl (lv_at hl 0 rfl) ?_
  refine lv_iload_n (pc := 1139) hx hb dL_law_1139 rfl (lv_at hl 3 rfl) ?_
  refine lv_iconst (pc := 1140) (v := 1) hx hb dL_law_1140 (by decide) ?_
  refine lv_iadd (pc := 1141) hx hb dL_law_1141 ?_
  refine va_sld (pc := 1142) hx hb hX hbl hbA hS v1 dL_law_1142 ?_
  rw [e1]
  refine lw_call (S1 := SM) (S2 := SC) (ad1 := adM) (ad2 := adC) (σ := τ) (σ1 := τ1) (τ := σ1) (As := [.int a1]) (v := (some (.int r))) (rest := [.int r]) (ci := 9) hx hb hml hown hts hN hK hDM hap2 hA hPM hPC hS hl.1 dL_law_1143 ⟨cd_X9_tell, im_X9_tell, se_X9_tell, ini_X9⟩ ml_L_127 (A9_tell a1 τ _ h9) rfl rfl ⟨rfl, pd_X9_tell⟩ ⟨Nat.le_of_ble_eq_true rfl, Nat.le_of_ble_eq_true rfl⟩ ⟨rfl, rfl⟩ ⟨Nat.le_of_ble_eq_true rfl, Nat.le_of_ble_eq_true rfl⟩ rfl rfl rfl (Nat.le_of_ble_eq_true rfl) (fun H locs hPM hPC hS => ?_)
  refine lv_icmp_eq (pc := 1146) (tgt := 1256) hx hb dL_law_1146 (by decide) (fun _ => ?_) (fun cj => absurd rfl cj)
  exact hend σ1 τ1 hI1 H locs hPC hPM hS
set_option maxHeartbeats 4000000 in
set_option maxRecDepth 100000 in
theorem law_case27 {p : Program} {l : Launch} {e : Env} {s : State} {m : MethodId} {below : List Frame} {meth : Method} {c : Code} {D : va_G} {cI cL : ClassId} {adC adM : Nat → Nat} {b L : Nat} {xs : Nat → Int32} (hx : p.tables.exec = Jvm.exec) (hb : c.code = code) (hml : c.maxLocals = 4) (hown : s.vm.findClass RL = some m.cls) (hts : ∀ w ∈ lw_tbl, w.before #[Value.ref b] s = true) (hN : NW s) (hK : va_K D vwCl [(cI, .int), (cL, .long)] s) (hX : va_X b L xs s s.heap) (hbl : b < s.heap.size)
    (hDC : va_D (fun q : Nat => s.heap.size ≤ q) (wd SC cI cL adC zHS)) (hDM : va_D (fun q : Nat => s.heap.size ≤ q) (wd SM cI cL adM zHS)) (hap : Apart2 SC SM cI cL adC adM) (hap2 : Apart2 SM SC cI cL adM adC)
    {Q : State → Prop} (j : Nat) (hj : j < 512) (σ τ : HS) (hI : Inv j σ τ) (H : Heap) (locs : List Loc) (hPC : va_P D vwCl (wd SC cI cL adC σ) H) (hPM : va_P D vwCl (wd SM cI cL adM τ) H) (hS : va_S (fun q : Nat => s.heap.size ≤ q) s.heap H locs) (x3 a1 a2 a3 a4 a5 : Int32) (v1 : vp_in (x3 + 1) L) (v2 : vp_in (x3 + 2) L) (v3 : vp_in (x3 + 3) L) (v4 : vp_in (x3 + 4) L) (v5 : vp_in (x3 + 5) L) (e1 : xs (x3 + 1).toNatClampNeg = a1) (e2 : xs (x3 + 2).toNatClampNeg = a2) (e3 : xs (x3 + 3).toNatClampNeg = a3) (e4 : xs (x3 + 4).toNatClampNeg = a4) (e5 : xs (x3 + 5).toNatClampNeg = a5) (ls : Array Slot) (hl : lv_has ls 4 [(0, .ref b), (1, .ref (adC 0)), (2, .ref (adM 0)), (3, .int x3)])
    (hend : ∀ (σ1 τ1 : HS), Inv (j + 1) σ1 τ1 → ∀ (H : Heap) (locs : List Loc), va_P D vwCl (wd SC cI cL adC σ1) H → va_P D vwCl (wd SM cI cL adM τ1) H → va_S (fun q : Nat => s.heap.size ≤ q) s.heap H locs → W p l e room_1 s m #[Value.ref b] below meth c H locs 72 10389 Q (F0 m 1256 ls [])) :
    W p l e room_1 s m #[Value.ref b] below meth c H locs 72 10389 Q (F0 m 1151 ls []) := by
  have hA : ∀ q : Nat, s.heap.size ≤ q → (fun q : Nat => s.heap.size ≤ q) q := fun _ h => h
  have hbA : ¬ (fun q : Nat => s.heap.size ≤ q) b := Nat.not_le.mpr hbl
  refine lv_aload_n (pc := 1151) hx hb dL_law_1151 rfl (lv_at hl 1 rfl) ?_
  refine lv_aload_n (pc := 1152) hx hb dL_law_1152 rfl (lv_at hl 0 rfl) ?_
  refine lv_iload_n (pc := 1153) hx hb dL_law_1153 rfl (lv_at hl 3 rfl) ?_
  refine lv_iconst (pc := 1154) (v := 1) hx hb dL_law_1154 (by decide) ?_
  refine lv_iadd (pc := 1155) hx hb dL_law_1155 ?_
  refine va_sld (pc := 1156) hx hb hX hbl hbA hS v1 dL_law_1156 ?_
  rw [e1]
  obtain ⟨r, σ1, τ1, h8, h9, hI1⟩ := op_call j σ τ a1 hI (by omega)
  refine lw_call (S1 := SC) (S2 := SM) (ad1 := adC) (ad2 := adM) (σ := σ) (σ1 := σ1) (τ := τ) (As := [.int a1]) (v := (some (.int r))) (rest := []) (ci := 8) hx hb hml hown hts hN hK hDC hap hA hPC hPM hS hl.1 dL_law_1157 ⟨cd_X8_call, im_X8_call, se_X8_call, ini_X8⟩ ml_L_128 (A8_call a1 σ _ h8) rfl rfl ⟨rfl, pd_X8_call⟩ ⟨Nat.le_of_ble_eq_true rfl, Nat.le_of_ble_eq_true rfl⟩ ⟨rfl, rfl⟩ ⟨Nat.le_of_ble_eq_true rfl, Nat.le_of_ble_eq_true rfl⟩ rfl rfl rfl (Nat.le_of_ble_eq_true rfl) (fun H locs hPC hPM hS => ?_)
  refine lv_aload_n (pc := 1160) hx hb dL_law_1160 rfl (lv_at hl 2 rfl) ?_
  refine lv_aload_n (pc := 1161) hx hb dL_law_1161 rfl (lv_at hl 0 rfl) ?_
  refine lv_iload_n (pc := 1162) hx hb dL_law_1162 rfl (lv_at hl 3 rfl) ?_
  refine lv_iconst (pc := 1163) (v := 1) hx hb dL_law_1163 (by decide) ?_
  refine lv_iadd (pc := 1164) hx hb dL_law_1164 ?_
  refine va_sld (pc := 1165) hx hb hX hbl hbA hS v1 dL_law_1165 ?_
  rw [e1]
  refine lw_call (S1 := SM) (S2 := SC) (ad1 := adM) (ad2 := adC) (σ := τ) (σ1 := τ1) (τ := σ1) (As := [.int a1]) (v := (some (.int r))) (rest := [.int r]) (ci := 9) hx hb hml hown hts hN hK hDM hap2 hA hPM hPC hS hl.1 dL_law_1166 ⟨cd_X9_call, im_X9_call, se_X9_call, ini_X9⟩ ml_L_131 (A9_call a1 τ _ h9) rfl rfl ⟨rfl, pd_X9_call⟩ ⟨Nat.le_of_ble_eq_true rfl, Nat.le_of_ble_eq_true rfl⟩ ⟨rfl, rfl⟩ ⟨Nat.le_of_ble_eq_true rfl, Nat.le_of_ble_eq_true rfl⟩ rfl rfl rfl (Nat.le_of_ble_eq_true rfl) (fun H locs hPM hPC hS => ?_)
  refine lv_icmp_eq (pc := 1169) (tgt := 1256) hx hb dL_law_1169 (by decide) (fun _ => ?_) (fun cj => absurd rfl cj)
  exact hend σ1 τ1 hI1 H locs hPC hPM hS
set_option maxHeartbeats 4000000 in
set_option maxRecDepth 100000 in
theorem law_case28 {p : Program} {l : Launch} {e : Env} {s : State} {m : MethodId} {below : List Frame} {meth : Method} {c : Code} {D : va_G} {cI cL : ClassId} {adC adM : Nat → Nat} {b L : Nat} {xs : Nat → Int32} (hx : p.tables.exec = Jvm.exec) (hb : c.code = code) (hml : c.maxLocals = 4) (hown : s.vm.findClass RL = some m.cls) (hts : ∀ w ∈ lw_tbl, w.before #[Value.ref b] s = true) (hN : NW s) (hK : va_K D vwCl [(cI, .int), (cL, .long)] s) (hX : va_X b L xs s s.heap) (hbl : b < s.heap.size)
    (hDC : va_D (fun q : Nat => s.heap.size ≤ q) (wd SC cI cL adC zHS)) (hDM : va_D (fun q : Nat => s.heap.size ≤ q) (wd SM cI cL adM zHS)) (hap : Apart2 SC SM cI cL adC adM) (hap2 : Apart2 SM SC cI cL adM adC)
    {Q : State → Prop} (j : Nat) (hj : j < 512) (σ τ : HS) (hI : Inv j σ τ) (H : Heap) (locs : List Loc) (hPC : va_P D vwCl (wd SC cI cL adC σ) H) (hPM : va_P D vwCl (wd SM cI cL adM τ) H) (hS : va_S (fun q : Nat => s.heap.size ≤ q) s.heap H locs) (x3 a1 a2 a3 a4 a5 : Int32) (v1 : vp_in (x3 + 1) L) (v2 : vp_in (x3 + 2) L) (v3 : vp_in (x3 + 3) L) (v4 : vp_in (x3 + 4) L) (v5 : vp_in (x3 + 5) L) (e1 : xs (x3 + 1).toNatClampNeg = a1) (e2 : xs (x3 + 2).toNatClampNeg = a2) (e3 : xs (x3 + 3).toNatClampNeg = a3) (e4 : xs (x3 + 4).toNatClampNeg = a4) (e5 : xs (x3 + 5).toNatClampNeg = a5) (ls : Array Slot) (hl : lv_has ls 4 [(0, .ref b), (1, .ref (adC 0)), (2, .ref (adM 0)), (3, .int x3)])
    (hend : ∀ (σ1 τ1 : HS), Inv (j + 1) σ1 τ1 → ∀ (H : Heap) (locs : List Loc), va_P D vwCl (wd SC cI cL adC σ1) H → va_P D vwCl (wd SM cI cL adM τ1) H → va_S (fun q : Nat => s.heap.size ≤ q) s.heap H locs → W p l e room_1 s m #[Value.ref b] below meth c H locs 72 10389 Q (F0 m 1256 ls [])) :
    W p l e room_1 s m #[Value.ref b] below meth c H locs 72 10389 Q (F0 m 1174 ls []) := by
  have hA : ∀ q : Nat, s.heap.size ≤ q → (fun q : Nat => s.heap.size ≤ q) q := fun _ h => h
  have hbA : ¬ (fun q : Nat => s.heap.size ≤ q) b := Nat.not_le.mpr hbl
  refine lv_aload_n (pc := 1174) hx hb dL_law_1174 rfl (lv_at hl 1 rfl) ?_
  refine lv_aload_n (pc := 1175) hx hb dL_law_1175 rfl (lv_at hl 0 rfl) ?_
  refine lv_iload_n (pc := 1176) hx hb dL_law_1176 rfl (lv_at hl 3 rfl) ?_
  refine lv_iconst (pc := 1177) (v := 1) hx hb dL_law_1177 (by decide) ?_
  refine lv_iadd (pc := 1178) hx hb dL_law_1178 ?_
  refine va_sld (pc := 1179) hx hb hX hbl hbA hS v1 dL_law_1179 ?_
  rw [e1]
  refine lv_aload_n (pc := 1180) hx hb dL_law_1180 rfl (lv_at hl 0 rfl) ?_
  refine lv_iload_n (pc := 1181) hx hb dL_law_1181 rfl (lv_at hl 3 rfl) ?_
  refine lv_iconst (pc := 1182) (v := 2) hx hb dL_law_1182 (by decide) ?_
  refine lv_iadd (pc := 1183) hx hb dL_law_1183 ?_
  refine va_sld (pc := 1184) hx hb hX hbl hbA hS v2 dL_law_1184 ?_
  rw [e2]
  obtain ⟨r, σ1, τ1, h8, h9, hI1⟩ := op_as j σ τ a1 a2 hI (by omega)
  refine lw_call (S1 := SC) (S2 := SM) (ad1 := adC) (ad2 := adM) (σ := σ) (σ1 := σ1) (τ := τ) (As := [.int a1, .int a2]) (v := (some (.int r))) (rest := []) (ci := 8) hx hb hml hown hts hN hK hDC hap hA hPC hPM hS hl.1 dL_law_1185 ⟨cd_X8_as, im_X8_as, se_X8_as, ini_X8⟩ ml_L_132 (A8_as a1 a2 σ _ h8) rfl rfl ⟨rfl, pd_X8_as⟩ ⟨Nat.le_of_ble_eq_true rfl, Nat.le_of_ble_eq_true rfl⟩ ⟨rfl, rfl⟩ ⟨Nat.le_of_ble_eq_true rfl, Nat.le_of_ble_eq_true rfl⟩ rfl rfl rfl (Nat.le_of_ble_eq_true rfl) (fun H locs hPC hPM hS => ?_)
  refine lv_aload_n (pc := 1188) hx hb dL_law_1188 rfl (lv_at hl 2 rfl) ?_
  refine lv_aload_n (pc := 1189) hx hb dL_law_1189 rfl (lv_at hl 0 rfl) ?_
  refine lv_iload_n (pc := 1190) hx hb dL_law_1190 rfl (lv_at hl 3 rfl) ?_
  refine lv_iconst (pc := 1191) (v := 1) hx hb dL_law_1191 (by decide) ?_
  refine lv_iadd (pc := 1192) hx hb dL_law_1192 ?_
  refine va_sld (pc := 1193) hx hb hX hbl hbA hS v1 dL_law_1193 ?_
  rw [e1]
  refine lv_aload_n (pc := 1194) hx hb dL_law_1194 rfl (lv_at hl 0 rfl) ?_
  refine lv_iload_n (pc := 1195) hx hb dL_law_1195 rfl (lv_at hl 3 rfl) ?_
  refine lv_iconst (pc := 1196) (v := 2) hx hb dL_law_1196 (by decide) ?_
  refine lv_iadd (pc := 1197) hx hb dL_law_1197 ?_
  refine va_sld (pc := 1198) hx hb hX hbl hbA hS v2 dL_law_1198 ?_
  rw [e2]
  refine lw_call (S1 := SM) (S2 := SC) (ad1 := adM) (ad2 := adC) (σ := τ) (σ1 := τ1) (τ := σ1) (As := [.int a1, .int a2]) (v := (some (.int r))) (rest := [.int r]) (ci := 9) hx hb hml hown hts hN hK hDM hap2 hA hPM hPC hS hl.1 dL_law_1199 ⟨cd_X9_as, im_X9_as, se_X9_as, ini_X9⟩ ml_L_135 (A9_as a1 a2 τ _ h9) rfl rfl ⟨rfl, pd_X9_as⟩ ⟨Nat.le_of_ble_eq_true rfl, Nat.le_of_ble_eq_true rfl⟩ ⟨rfl, rfl⟩ ⟨Nat.le_of_ble_eq_true rfl, Nat.le_of_ble_eq_true rfl⟩ rfl rfl rfl (Nat.le_of_ble_eq_true rfl) (fun H locs hPM hPC hS => ?_)
  refine lv_icmp_eq (pc := 1202) (tgt := 1256) hx hb dL_law_1202 (by decide) (fun _ => ?_) (fun cj => absurd rfl cj)
  exact hend σ1 τ1 hI1 H locs hPC hPM hS
set_option maxHeartbeats 4000000 in
set_option maxRecDepth 100000 in
theorem law_case29 {p : Program} {l : Launch} {e : Env} {s : State} {m : MethodId} {below : List Frame} {meth : Method} {c : Code} {D : va_G} {cI cL : ClassId} {adC adM : Nat → Nat} {b L : Nat} {xs : Nat → Int32} (hx : p.tables.exec = Jvm.exec) (hb : c.code = code) (hml : c.maxLocals = 4) (hown : s.vm.findClass RL = some m.cls) (hts : ∀ w ∈ lw_tbl, w.before #[Value.ref b] s = true) (hN : NW s) (hK : va_K D vwCl [(cI, .int), (cL, .long)] s) (hX : va_X b L xs s s.heap) (hbl : b < s.heap.size)
    (hDC : va_D (fun q : Nat => s.heap.size ≤ q) (wd SC cI cL adC zHS)) (hDM : va_D (fun q : Nat => s.heap.size ≤ q) (wd SM cI cL adM zHS)) (hap : Apart2 SC SM cI cL adC adM) (hap2 : Apart2 SM SC cI cL adM adC)
    {Q : State → Prop} (j : Nat) (hj : j < 512) (σ τ : HS) (hI : Inv j σ τ) (H : Heap) (locs : List Loc) (hPC : va_P D vwCl (wd SC cI cL adC σ) H) (hPM : va_P D vwCl (wd SM cI cL adM τ) H) (hS : va_S (fun q : Nat => s.heap.size ≤ q) s.heap H locs) (x3 a1 a2 a3 a4 a5 : Int32) (v1 : vp_in (x3 + 1) L) (v2 : vp_in (x3 + 2) L) (v3 : vp_in (x3 + 3) L) (v4 : vp_in (x3 + 4) L) (v5 : vp_in (x3 + 5) L) (e1 : xs (x3 + 1).toNatClampNeg = a1) (e2 : xs (x3 + 2).toNatClampNeg = a2) (e3 : xs (x3 + 3).toNatClampNeg = a3) (e4 : xs (x3 + 4).toNatClampNeg = a4) (e5 : xs (x3 + 5).toNatClampNeg = a5) (ls : Array Slot) (hl : lv_has ls 4 [(0, .ref b), (1, .ref (adC 0)), (2, .ref (adM 0)), (3, .int x3)])
    (hend : ∀ (σ1 τ1 : HS), Inv (j + 1) σ1 τ1 → ∀ (H : Heap) (locs : List Loc), va_P D vwCl (wd SC cI cL adC σ1) H → va_P D vwCl (wd SM cI cL adM τ1) H → va_S (fun q : Nat => s.heap.size ≤ q) s.heap H locs → W p l e room_1 s m #[Value.ref b] below meth c H locs 72 10389 Q (F0 m 1256 ls [])) :
    W p l e room_1 s m #[Value.ref b] below meth c H locs 72 10389 Q (F0 m 1207 ls []) := by
  have hA : ∀ q : Nat, s.heap.size ≤ q → (fun q : Nat => s.heap.size ≤ q) q := fun _ h => h
  have hbA : ¬ (fun q : Nat => s.heap.size ≤ q) b := Nat.not_le.mpr hbl
  refine lv_aload_n (pc := 1207) hx hb dL_law_1207 rfl (lv_at hl 1 rfl) ?_
  obtain ⟨r, σ1, τ1, h8, h9, hI1⟩ := op_trace j σ τ hI (by omega)
  refine lw_call (S1 := SC) (S2 := SM) (ad1 := adC) (ad2 := adM) (σ := σ) (σ1 := σ1) (τ := τ) (As := []) (v := (some (.int r))) (rest := []) (ci := 8) hx hb hml hown hts hN hK hDC hap hA hPC hPM hS hl.1 dL_law_1208 ⟨cd_X8_trace, im_X8_trace, se_X8_trace, ini_X8⟩ ml_L_136 (A8_trace σ _ h8) rfl rfl ⟨rfl, pd_X8_trace⟩ ⟨Nat.le_of_ble_eq_true rfl, Nat.le_of_ble_eq_true rfl⟩ ⟨rfl, rfl⟩ ⟨Nat.le_of_ble_eq_true rfl, Nat.le_of_ble_eq_true rfl⟩ rfl rfl rfl (Nat.le_of_ble_eq_true rfl) (fun H locs hPC hPM hS => ?_)
  refine lv_aload_n (pc := 1211) hx hb dL_law_1211 rfl (lv_at hl 2 rfl) ?_
  refine lw_call (S1 := SM) (S2 := SC) (ad1 := adM) (ad2 := adC) (σ := τ) (σ1 := τ1) (τ := σ1) (As := []) (v := (some (.int r))) (rest := [.int r]) (ci := 9) hx hb hml hown hts hN hK hDM hap2 hA hPM hPC hS hl.1 dL_law_1212 ⟨cd_X9_trace, im_X9_trace, se_X9_trace, ini_X9⟩ ml_L_140 (A9_trace τ _ h9) rfl rfl ⟨rfl, pd_X9_trace⟩ ⟨Nat.le_of_ble_eq_true rfl, Nat.le_of_ble_eq_true rfl⟩ ⟨rfl, rfl⟩ ⟨Nat.le_of_ble_eq_true rfl, Nat.le_of_ble_eq_true rfl⟩ rfl rfl rfl (Nat.le_of_ble_eq_true rfl) (fun H locs hPM hPC hS => ?_)
  refine lv_icmp_eq (pc := 1215) (tgt := 1256) hx hb dL_law_1215 (by decide) (fun _ => ?_) (fun cj => absurd rfl cj)
  exact hend σ1 τ1 hI1 H locs hPC hPM hS
set_option maxHeartbeats 4000000 in
set_option maxRecDepth 100000 in
theorem law_case30 {p : Program} {l : Launch} {e : Env} {s : State} {m : MethodId} {below : List Frame} {meth : Method} {c : Code} {D : va_G} {cI cL : ClassId} {adC adM : Nat → Nat} {b L : Nat} {xs : Nat → Int32} (hx : p.tables.exec = Jvm.exec) (hb : c.code = code) (hml : c.maxLocals = 4) (hown : s.vm.findClass RL = some m.cls) (hts : ∀ w ∈ lw_tbl, w.before #[Value.ref b] s = true) (hN : NW s) (hK : va_K D vwCl [(cI, .int), (cL, .long)] s) (hX : va_X b L xs s s.heap) (hbl : b < s.heap.size)
    (hDC : va_D (fun q : Nat => s.heap.size ≤ q) (wd SC cI cL adC zHS)) (hDM : va_D (fun q : Nat => s.heap.size ≤ q) (wd SM cI cL adM zHS)) (hap : Apart2 SC SM cI cL adC adM) (hap2 : Apart2 SM SC cI cL adM adC)
    {Q : State → Prop} (j : Nat) (hj : j < 512) (σ τ : HS) (hI : Inv j σ τ) (H : Heap) (locs : List Loc) (hPC : va_P D vwCl (wd SC cI cL adC σ) H) (hPM : va_P D vwCl (wd SM cI cL adM τ) H) (hS : va_S (fun q : Nat => s.heap.size ≤ q) s.heap H locs) (x3 a1 a2 a3 a4 a5 : Int32) (v1 : vp_in (x3 + 1) L) (v2 : vp_in (x3 + 2) L) (v3 : vp_in (x3 + 3) L) (v4 : vp_in (x3 + 4) L) (v5 : vp_in (x3 + 5) L) (e1 : xs (x3 + 1).toNatClampNeg = a1) (e2 : xs (x3 + 2).toNatClampNeg = a2) (e3 : xs (x3 + 3).toNatClampNeg = a3) (e4 : xs (x3 + 4).toNatClampNeg = a4) (e5 : xs (x3 + 5).toNatClampNeg = a5) (ls : Array Slot) (hl : lv_has ls 4 [(0, .ref b), (1, .ref (adC 0)), (2, .ref (adM 0)), (3, .int x3)])
    (hend : ∀ (σ1 τ1 : HS), Inv (j + 1) σ1 τ1 → ∀ (H : Heap) (locs : List Loc), va_P D vwCl (wd SC cI cL adC σ1) H → va_P D vwCl (wd SM cI cL adM τ1) H → va_S (fun q : Nat => s.heap.size ≤ q) s.heap H locs → W p l e room_1 s m #[Value.ref b] below meth c H locs 72 10389 Q (F0 m 1256 ls [])) :
    W p l e room_1 s m #[Value.ref b] below meth c H locs 72 10389 Q (F0 m 1220 ls []) := by
  have hA : ∀ q : Nat, s.heap.size ≤ q → (fun q : Nat => s.heap.size ≤ q) q := fun _ h => h
  have hbA : ¬ (fun q : Nat => s.heap.size ≤ q) b := Nat.not_le.mpr hbl
  refine lv_aload_n (pc := 1220) hx hb dL_law_1220 rfl (lv_at hl 1 rfl) ?_
  obtain ⟨r, σ1, τ1, h8, h9, hI1⟩ := op_fault j σ τ hI (by omega)
  refine lw_call (S1 := SC) (S2 := SM) (ad1 := adC) (ad2 := adM) (σ := σ) (σ1 := σ1) (τ := τ) (As := []) (v := (some (.int r))) (rest := []) (ci := 8) hx hb hml hown hts hN hK hDC hap hA hPC hPM hS hl.1 dL_law_1221 ⟨cd_X8_fault, im_X8_fault, se_X8_fault, ini_X8⟩ ml_L_141 (A8_fault σ _ h8) rfl rfl ⟨rfl, pd_X8_fault⟩ ⟨Nat.le_of_ble_eq_true rfl, Nat.le_of_ble_eq_true rfl⟩ ⟨rfl, rfl⟩ ⟨Nat.le_of_ble_eq_true rfl, Nat.le_of_ble_eq_true rfl⟩ rfl rfl rfl (Nat.le_of_ble_eq_true rfl) (fun H locs hPC hPM hS => ?_)
  refine lv_aload_n (pc := 1224) hx hb dL_law_1224 rfl (lv_at hl 2 rfl) ?_
  refine lw_call (S1 := SM) (S2 := SC) (ad1 := adM) (ad2 := adC) (σ := τ) (σ1 := τ1) (τ := σ1) (As := []) (v := (some (.int r))) (rest := [.int r]) (ci := 9) hx hb hml hown hts hN hK hDM hap2 hA hPM hPC hS hl.1 dL_law_1225 ⟨cd_X9_fault, im_X9_fault, se_X9_fault, ini_X9⟩ ml_L_144 (A9_fault τ _ h9) rfl rfl ⟨rfl, pd_X9_fault⟩ ⟨Nat.le_of_ble_eq_true rfl, Nat.le_of_ble_eq_true rfl⟩ ⟨rfl, rfl⟩ ⟨Nat.le_of_ble_eq_true rfl, Nat.le_of_ble_eq_true rfl⟩ rfl rfl rfl (Nat.le_of_ble_eq_true rfl) (fun H locs hPM hPC hS => ?_)
  refine lv_icmp_eq (pc := 1228) (tgt := 1256) hx hb dL_law_1228 (by decide) (fun _ => ?_) (fun cj => absurd rfl cj)
  exact hend σ1 τ1 hI1 H locs hPC hPM hS
set_option maxHeartbeats 4000000 in
set_option maxRecDepth 100000 in
theorem law_case31 {p : Program} {l : Launch} {e : Env} {s : State} {m : MethodId} {below : List Frame} {meth : Method} {c : Code} {D : va_G} {cI cL : ClassId} {adC adM : Nat → Nat} {b L : Nat} {xs : Nat → Int32} (hx : p.tables.exec = Jvm.exec) (hb : c.code = code) (hml : c.maxLocals = 4) (hown : s.vm.findClass RL = some m.cls) (hts : ∀ w ∈ lw_tbl, w.before #[Value.ref b] s = true) (hN : NW s) (hK : va_K D vwCl [(cI, .int), (cL, .long)] s) (hX : va_X b L xs s s.heap) (hbl : b < s.heap.size)
    (hDC : va_D (fun q : Nat => s.heap.size ≤ q) (wd SC cI cL adC zHS)) (hDM : va_D (fun q : Nat => s.heap.size ≤ q) (wd SM cI cL adM zHS)) (hap : Apart2 SC SM cI cL adC adM) (hap2 : Apart2 SM SC cI cL adM adC)
    {Q : State → Prop} (j : Nat) (hj : j < 512) (σ τ : HS) (hI : Inv j σ τ) (H : Heap) (locs : List Loc) (hPC : va_P D vwCl (wd SC cI cL adC σ) H) (hPM : va_P D vwCl (wd SM cI cL adM τ) H) (hS : va_S (fun q : Nat => s.heap.size ≤ q) s.heap H locs) (x3 a1 a2 a3 a4 a5 : Int32) (v1 : vp_in (x3 + 1) L) (v2 : vp_in (x3 + 2) L) (v3 : vp_in (x3 + 3) L) (v4 : vp_in (x3 + 4) L) (v5 : vp_in (x3 + 5) L) (e1 : xs (x3 + 1).toNatClampNeg = a1) (e2 : xs (x3 + 2).toNatClampNeg = a2) (e3 : xs (x3 + 3).toNatClampNeg = a3) (e4 : xs (x3 + 4).toNatClampNeg = a4) (e5 : xs (x3 + 5).toNatClampNeg = a5) (ls : Array Slot) (hl : lv_has ls 4 [(0, .ref b), (1, .ref (adC 0)), (2, .ref (adM 0)), (3, .int x3)])
    (hend : ∀ (σ1 τ1 : HS), Inv (j + 1) σ1 τ1 → ∀ (H : Heap) (locs : List Loc), va_P D vwCl (wd SC cI cL adC σ1) H → va_P D vwCl (wd SM cI cL adM τ1) H → va_S (fun q : Nat => s.heap.size ≤ q) s.heap H locs → W p l e room_1 s m #[Value.ref b] below meth c H locs 72 10389 Q (F0 m 1256 ls [])) :
    W p l e room_1 s m #[Value.ref b] below meth c H locs 72 10389 Q (F0 m 1233 ls []) := by
  have hA : ∀ q : Nat, s.heap.size ≤ q → (fun q : Nat => s.heap.size ≤ q) q := fun _ h => h
  have hbA : ¬ (fun q : Nat => s.heap.size ≤ q) b := Nat.not_le.mpr hbl
  refine lv_aload_n (pc := 1233) hx hb dL_law_1233 rfl (lv_at hl 1 rfl) ?_
  refine lv_aload_n (pc := 1234) hx hb dL_law_1234 rfl (lv_at hl 0 rfl) ?_
  refine lv_iload_n (pc := 1235) hx hb dL_law_1235 rfl (lv_at hl 3 rfl) ?_
  refine lv_iconst (pc := 1236) (v := 1) hx hb dL_law_1236 (by decide) ?_
  refine lv_iadd (pc := 1237) hx hb dL_law_1237 ?_
  refine va_sld (pc := 1238) hx hb hX hbl hbA hS v1 dL_law_1238 ?_
  rw [e1]
  obtain ⟨r, σ1, τ1, h8, h9, hI1⟩ := op_many j σ τ a1 hI (by omega)
  refine lw_call (S1 := SC) (S2 := SM) (ad1 := adC) (ad2 := adM) (σ := σ) (σ1 := σ1) (τ := τ) (As := [.int a1]) (v := (some (.int r))) (rest := []) (ci := 8) hx hb hml hown hts hN hK hDC hap hA hPC hPM hS hl.1 dL_law_1239 ⟨cd_X8_many, im_X8_many, se_X8_many, ini_X8⟩ ml_L_145 (A8_many a1 σ _ h8) rfl rfl ⟨rfl, pd_X8_many⟩ ⟨Nat.le_of_ble_eq_true rfl, Nat.le_of_ble_eq_true rfl⟩ ⟨rfl, rfl⟩ ⟨Nat.le_of_ble_eq_true rfl, Nat.le_of_ble_eq_true rfl⟩ rfl rfl rfl (Nat.le_of_ble_eq_true rfl) (fun H locs hPC hPM hS => ?_)
  refine lv_aload_n (pc := 1242) hx hb dL_law_1242 rfl (lv_at hl 2 rfl) ?_
  refine lv_aload_n (pc := 1243) hx hb dL_law_1243 rfl (lv_at hl 0 rfl) ?_
  refine lv_iload_n (pc := 1244) hx hb dL_law_1244 rfl (lv_at hl 3 rfl) ?_
  refine lv_iconst (pc := 1245) (v := 1) hx hb dL_law_1245 (by decide) ?_
  refine lv_iadd (pc := 1246) hx hb dL_law_1246 ?_
  refine va_sld (pc := 1247) hx hb hX hbl hbA hS v1 dL_law_1247 ?_
  rw [e1]
  refine lw_call (S1 := SM) (S2 := SC) (ad1 := adM) (ad2 := adC) (σ := τ) (σ1 := τ1) (τ := σ1) (As := [.int a1]) (v := (some (.int r))) (rest := [.int r]) (ci := 9) hx hb hml hown hts hN hK hDM hap2 hA hPM hPC hS hl.1 dL_law_1248 ⟨cd_X9_many, im_X9_many, se_X9_many, ini_X9⟩ ml_L_148 (A9_many a1 τ _ h9) rfl rfl ⟨rfl, pd_X9_many⟩ ⟨Nat.le_of_ble_eq_true rfl, Nat.le_of_ble_eq_true rfl⟩ ⟨rfl, rfl⟩ ⟨Nat.le_of_ble_eq_true rfl, Nat.le_of_ble_eq_true rfl⟩ rfl rfl rfl (Nat.le_of_ble_eq_true rfl) (fun H locs hPM hPC hS => ?_)
  refine lv_icmp_eq (pc := 1251) (tgt := 1256) hx hb dL_law_1251 (by decide) (fun _ => ?_) (fun cj => absurd rfl cj)
  exact hend σ1 τ1 hI1 H locs hPC hPM hS
set_option maxHeartbeats 4000000 in
set_option maxRecDepth 100000 in
theorem law_loop {p : Program} {l : Launch} {e : Env} {s : State} {m : MethodId} {below : List Frame} {meth : Method} {c : Code} {D : va_G} {cI cL : ClassId} {adC adM : Nat → Nat} {b L : Nat} {xs : Nat → Int32} (hx : p.tables.exec = Jvm.exec) (hb : c.code = code) (hml : c.maxLocals = 4) (hown : s.vm.findClass RL = some m.cls) (hts : ∀ w ∈ lw_tbl, w.before #[Value.ref b] s = true) (hN : NW s) (hK : va_K D vwCl [(cI, .int), (cL, .long)] s) (hX : va_X b L xs s s.heap) (hbl : b < s.heap.size)
    (hDC : va_D (fun q : Nat => s.heap.size ≤ q) (wd SC cI cL adC zHS)) (hDM : va_D (fun q : Nat => s.heap.size ≤ q) (wd SM cI cL adM zHS)) (hap : Apart2 SC SM cI cL adC adM) (hap2 : Apart2 SM SC cI cL adM adC) (hL : L ≤ 3072) (hr : meth.sig.returnType = ret) (hlocks : meth.locks = false) :
    ∀ (n j : Nat), 6 * j ≤ L → 513 ≤ j + n → ∀ (σ τ : HS), Inv j σ τ → ∀ (H : Heap) (locs : List Loc), va_P D vwCl (wd SC cI cL adC σ) H → va_P D vwCl (wd SM cI cL adM τ) H → va_S (fun q : Nat => s.heap.size ≤ q) s.heap H locs → ∀ (ls : Array Slot), lv_has ls 4 [(0, .ref b), (1, .ref (adC 0)), (2, .ref (adM 0)), (3, .int (nI (6 * j)))] → W p l e room_1 s m #[Value.ref b] below meth c H locs 72 10389 (lw_Z below #[Value.ref b] s) (F0 m 18 ls []) := by
  have hA : ∀ q : Nat, s.heap.size ≤ q → (fun q : Nat => s.heap.size ≤ q) q := fun _ h => h
  have hbA : ¬ (fun q : Nat => s.heap.size ≤ q) b := Nat.not_le.mpr hbl
  intro n
  induction n with
  | zero =>
    intro j h1 h2
    exact absurd h2 (by omega)
  | succ n ih =>
    intro j hj hjn σ τ hI H locs hPC hPM hS ls hl
    refine lv_iload_n (pc := 18) hx hb dL_law_18 rfl (lv_at hl 3 rfl) ?_
    refine lv_aload_n (pc := 19) hx hb dL_law_19 rfl (lv_at hl 0 rfl) ?_
    refine va_slen (pc := 20) hx hb hX hbl hbA hS dL_law_20 ?_
    refine lv_bipush (pc := 21) (v := 6) hx hb dL_law_21 (by decide) ?_
    refine lv_isub (pc := 23) hx hb dL_law_23 ?_
    refine lv_icmp_gt (pc := 24) (tgt := 1262) hx hb dL_law_24 (by decide) (fun cj => ?_) (fun cj => ?_)
    · refine lv_iconst (pc := 1262) (v := 1) hx hb dL_law_1262 (by decide) ?_
      refine va_forget (fun q hq => hS.2.2 q hq) ?_
      exact lw_ret hx hb hr hlocks dL_law_1263
    · have hL6 : 6 * j + 6 ≤ L := by
        have a1 : (Int32.ofNat L).toInt = (L : Int) := nI_toInt (n := L) (by omega)
        have a2 : (nI (6 * j)).toInt = ((6 * j : Nat) : Int) := nI_toInt (by omega)
        have a3 : (Int32.ofNat L - 6).toInt = (L : Int) - 6 := by
          rw [Int32.toInt_sub, a1, show (6 : Int32).toInt = 6 from rfl]
          exact Int.bmod_eq_of_le (by omega) (by omega)
        rw [Int32.lt_iff_toInt_lt, a2, a3] at cj
        omega
      have key : ∀ k : Nat, k < 6 → vp_in (nI (6 * j) + nI k) L := fun k hk => by rw [nI_add]; exact vp_in_nI (by omega) (by omega)
      have v0 : vp_in (nI (6 * j)) L := vp_in_nI (by omega) (by omega)
      refine lv_aload_n (pc := 27) hx hb dL_law_27 rfl (lv_at hl 0 rfl) ?_
      refine lv_iload_n (pc := 28) hx hb dL_law_28 rfl (lv_at hl 3 rfl) ?_
      refine va_sld (pc := 29) hx hb hX hbl hbA hS v0 dL_law_29 ?_
      refine lv_bipush (pc := 30) (v := 31) hx hb dL_law_30 (by decide) ?_
      refine lv_iand (pc := 32) hx hb dL_law_32 ?_
      generalize xs (nI (6 * j)).toNatClampNeg &&& 31 = w0
      have hend : ∀ (σ1 τ1 : HS), Inv (j + 1) σ1 τ1 → ∀ (H : Heap) (locs : List Loc), va_P D vwCl (wd SC cI cL adC σ1) H → va_P D vwCl (wd SM cI cL adM τ1) H → va_S (fun q : Nat => s.heap.size ≤ q) s.heap H locs → W p l e room_1 s m #[Value.ref b] below meth c H locs 72 10389 (lw_Z below #[Value.ref b] s) (F0 m 1256 ls []) := by
        intro σ1 τ1 hI1 H locs hPC hPM hS
        refine lv_iinc (pc := 1256) (v := nI (6 * (j + 1))) (lv' := [(3, .int (nI (6 * (j + 1)))), (0, .ref b), (1, .ref (adC 0)), (2, .ref (adM 0))]) hx hb dL_law_1256 hl (k := 3) rfl (nI_add (6 * j) 6) (by decide) rfl (fun ls hl => ?_)
        refine lv_goto (pc := 1259) (tgt := 18) hx hb dL_law_1259 (by decide) ?_
        exact ih (j + 1) (by omega) (by omega) σ1 τ1 hI1 H locs hPC hPM hS ls (lv_sub hl [1, 2, 3, 0] rfl)
      by_cases c0 : w0 = 0
      · refine lv_tableIn (pc := 33) (off := 143) (tgt := 176) hx hb dL_law_33 (by rw [c0]; decide) (by rw [c0]; decide) (by rw [c0]; rfl) (by decide) ?_
        exact law_case0 hx hb hml hown hts hN hK hX hbl hDC hDM hap hap2 j (by omega) σ τ hI H locs hPC hPM hS _ _ _ _ _ _ (key 1 (by omega)) (key 2 (by omega)) (key 3 (by omega)) (key 4 (by omega)) (key 5 (by omega)) rfl rfl rfl rfl rfl ls hl hend
      by_cases c1 : w0 = 1
      · refine lv_tableIn (pc := 33) (off := 196) (tgt := 229) hx hb dL_law_33 (by rw [c1]; decide) (by rw [c1]; decide) (by rw [c1]; rfl) (by decide) ?_
        exact law_case1 hx hb hml hown hts hN hK hX hbl hDC hDM hap hap2 j (by omega) σ τ hI H locs hPC hPM hS _ _ _ _ _ _ (key 1 (by omega)) (key 2 (by omega)) (key 3 (by omega)) (key 4 (by omega)) (key 5 (by omega)) rfl rfl rfl rfl rfl ls hl hend
      by_cases c2 : w0 = 2
      · refine lv_tableIn (pc := 33) (off := 229) (tgt := 262) hx hb dL_law_33 (by rw [c2]; decide) (by rw [c2]; decide) (by rw [c2]; rfl) (by decide) ?_
        exact law_case2 hx hb hml hown hts hN hK hX hbl hDC hDM hap hap2 j (by omega) σ τ hI H locs hPC hPM hS _ _ _ _ _ _ (key 1 (by omega)) (key 2 (by omega)) (key 3 (by omega)) (key 4 (by omega)) (key 5 (by omega)) rfl rfl rfl rfl rfl ls hl hend
      by_cases c3 : w0 = 3
      · refine lv_tableIn (pc := 33) (off := 272) (tgt := 305) hx hb dL_law_33 (by rw [c3]; decide) (by rw [c3]; decide) (by rw [c3]; rfl) (by decide) ?_
        exact law_case3 hx hb hml hown hts hN hK hX hbl hDC hDM hap hap2 j (by omega) σ τ hI H locs hPC hPM hS _ _ _ _ _ _ (key 1 (by omega)) (key 2 (by omega)) (key 3 (by omega)) (key 4 (by omega)) (key 5 (by omega)) rfl rfl rfl rfl rfl ls hl hend
      by_cases c4 : w0 = 4
      · refine lv_tableIn (pc := 33) (off := 295) (tgt := 328) hx hb dL_law_33 (by rw [c4]; decide) (by rw [c4]; decide) (by rw [c4]; rfl) (by decide) ?_
        exact law_case4 hx hb hml hown hts hN hK hX hbl hDC hDM hap hap2 j (by omega) σ τ hI H locs hPC hPM hS _ _ _ _ _ _ (key 1 (by omega)) (key 2 (by omega)) (key 3 (by omega)) (key 4 (by omega)) (key 5 (by omega)) rfl rfl rfl rfl rfl ls hl hend
      by_cases c5 : w0 = 5
      · refine lv_tableIn (pc := 33) (off := 328) (tgt := 361) hx hb dL_law_33 (by rw [c5]; decide) (by rw [c5]; decide) (by rw [c5]; rfl) (by decide) ?_
        exact law_case5 hx hb hml hown hts hN hK hX hbl hDC hDM hap hap2 j (by omega) σ τ hI H locs hPC hPM hS _ _ _ _ _ _ (key 1 (by omega)) (key 2 (by omega)) (key 3 (by omega)) (key 4 (by omega)) (key 5 (by omega)) rfl rfl rfl rfl rfl ls hl hend
      by_cases c6 : w0 = 6
      · refine lv_tableIn (pc := 33) (off := 391) (tgt := 424) hx hb dL_law_33 (by rw [c6]; decide) (by rw [c6]; decide) (by rw [c6]; rfl) (by decide) ?_
        exact law_case6 hx hb hml hown hts hN hK hX hbl hDC hDM hap hap2 j (by omega) σ τ hI H locs hPC hPM hS _ _ _ _ _ _ (key 1 (by omega)) (key 2 (by omega)) (key 3 (by omega)) (key 4 (by omega)) (key 5 (by omega)) rfl rfl rfl rfl rfl ls hl hend
      by_cases c7 : w0 = 7
      · refine lv_tableIn (pc := 33) (off := 454) (tgt := 487) hx hb dL_law_33 (by rw [c7]; decide) (by rw [c7]; decide) (by rw [c7]; rfl) (by decide) ?_
        exact law_case7 hx hb hml hown hts hN hK hX hbl hDC hDM hap hap2 j (by omega) σ τ hI H locs hPC hPM hS _ _ _ _ _ _ (key 1 (by omega)) (key 2 (by omega)) (key 3 (by omega)) (key 4 (by omega)) (key 5 (by omega)) rfl rfl rfl rfl rfl ls hl hend
      by_cases c8 : w0 = 8
      · refine lv_tableIn (pc := 33) (off := 487) (tgt := 520) hx hb dL_law_33 (by rw [c8]; decide) (by rw [c8]; decide) (by rw [c8]; rfl) (by decide) ?_
        exact law_case8 hx hb hml hown hts hN hK hX hbl hDC hDM hap hap2 j (by omega) σ τ hI H locs hPC hPM hS _ _ _ _ _ _ (key 1 (by omega)) (key 2 (by omega)) (key 3 (by omega)) (key 4 (by omega)) (key 5 (by omega)) rfl rfl rfl rfl rfl ls hl hend
      by_cases c9 : w0 = 9
      · refine lv_tableIn (pc := 33) (off := 510) (tgt := 543) hx hb dL_law_33 (by rw [c9]; decide) (by rw [c9]; decide) (by rw [c9]; rfl) (by decide) ?_
        exact law_case9 hx hb hml hown hts hN hK hX hbl hDC hDM hap hap2 j (by omega) σ τ hI H locs hPC hPM hS _ _ _ _ _ _ (key 1 (by omega)) (key 2 (by omega)) (key 3 (by omega)) (key 4 (by omega)) (key 5 (by omega)) rfl rfl rfl rfl rfl ls hl hend
      by_cases c10 : w0 = 10
      · refine lv_tableIn (pc := 33) (off := 533) (tgt := 566) hx hb dL_law_33 (by rw [c10]; decide) (by rw [c10]; decide) (by rw [c10]; rfl) (by decide) ?_
        exact law_case10 hx hb hml hown hts hN hK hX hbl hDC hDM hap hap2 j (by omega) σ τ hI H locs hPC hPM hS _ _ _ _ _ _ (key 1 (by omega)) (key 2 (by omega)) (key 3 (by omega)) (key 4 (by omega)) (key 5 (by omega)) rfl rfl rfl rfl rfl ls hl hend
      by_cases c11 : w0 = 11
      · refine lv_tableIn (pc := 33) (off := 556) (tgt := 589) hx hb dL_law_33 (by rw [c11]; decide) (by rw [c11]; decide) (by rw [c11]; rfl) (by decide) ?_
        exact law_case11 hx hb hml hown hts hN hK hX hbl hDC hDM hap hap2 j (by omega) σ τ hI H locs hPC hPM hS _ _ _ _ _ _ (key 1 (by omega)) (key 2 (by omega)) (key 3 (by omega)) (key 4 (by omega)) (key 5 (by omega)) rfl rfl rfl rfl rfl ls hl hend
      by_cases c12 : w0 = 12
      · refine lv_tableIn (pc := 33) (off := 579) (tgt := 612) hx hb dL_law_33 (by rw [c12]; decide) (by rw [c12]; decide) (by rw [c12]; rfl) (by decide) ?_
        exact law_case12 hx hb hml hown hts hN hK hX hbl hDC hDM hap hap2 j (by omega) σ τ hI H locs hPC hPM hS _ _ _ _ _ _ (key 1 (by omega)) (key 2 (by omega)) (key 3 (by omega)) (key 4 (by omega)) (key 5 (by omega)) rfl rfl rfl rfl rfl ls hl hend
      by_cases c13 : w0 = 13
      · refine lv_tableIn (pc := 33) (off := 613) (tgt := 646) hx hb dL_law_33 (by rw [c13]; decide) (by rw [c13]; decide) (by rw [c13]; rfl) (by decide) ?_
        exact law_case13 hx hb hml hown hts hN hK hX hbl hDC hDM hap hap2 j (by omega) σ τ hI H locs hPC hPM hS _ _ _ _ _ _ (key 1 (by omega)) (key 2 (by omega)) (key 3 (by omega)) (key 4 (by omega)) (key 5 (by omega)) rfl rfl rfl rfl rfl ls hl hend
      by_cases c14 : w0 = 14
      · refine lv_tableIn (pc := 33) (off := 647) (tgt := 680) hx hb dL_law_33 (by rw [c14]; decide) (by rw [c14]; decide) (by rw [c14]; rfl) (by decide) ?_
        exact law_case14 hx hb hml hown hts hN hK hX hbl hDC hDM hap hap2 j (by omega) σ τ hI H locs hPC hPM hS _ _ _ _ _ _ (key 1 (by omega)) (key 2 (by omega)) (key 3 (by omega)) (key 4 (by omega)) (key 5 (by omega)) rfl rfl rfl rfl rfl ls hl hend
      by_cases c15 : w0 = 15
      · refine lv_tableIn (pc := 33) (off := 690) (tgt := 723) hx hb dL_law_33 (by rw [c15]; decide) (by rw [c15]; decide) (by rw [c15]; rfl) (by decide) ?_
        exact law_case15 hx hb hml hown hts hN hK hX hbl hDC hDM hap hap2 j (by omega) σ τ hI H locs hPC hPM hS _ _ _ _ _ _ (key 1 (by omega)) (key 2 (by omega)) (key 3 (by omega)) (key 4 (by omega)) (key 5 (by omega)) rfl rfl rfl rfl rfl ls hl hend
      by_cases c16 : w0 = 16
      · refine lv_tableIn (pc := 33) (off := 723) (tgt := 756) hx hb dL_law_33 (by rw [c16]; decide) (by rw [c16]; decide) (by rw [c16]; rfl) (by decide) ?_
        exact law_case16 hx hb hml hown hts hN hK hX hbl hDC hDM hap hap2 j (by omega) σ τ hI H locs hPC hPM hS _ _ _ _ _ _ (key 1 (by omega)) (key 2 (by omega)) (key 3 (by omega)) (key 4 (by omega)) (key 5 (by omega)) rfl rfl rfl rfl rfl ls hl hend
      by_cases c17 : w0 = 17
      · refine lv_tableIn (pc := 33) (off := 776) (tgt := 809) hx hb dL_law_33 (by rw [c17]; decide) (by rw [c17]; decide) (by rw [c17]; rfl) (by decide) ?_
        exact law_case17 hx hb hml hown hts hN hK hX hbl hDC hDM hap hap2 j (by omega) σ τ hI H locs hPC hPM hS _ _ _ _ _ _ (key 1 (by omega)) (key 2 (by omega)) (key 3 (by omega)) (key 4 (by omega)) (key 5 (by omega)) rfl rfl rfl rfl rfl ls hl hend
      by_cases c18 : w0 = 18
      · refine lv_tableIn (pc := 33) (off := 799) (tgt := 832) hx hb dL_law_33 (by rw [c18]; decide) (by rw [c18]; decide) (by rw [c18]; rfl) (by decide) ?_
        exact law_case18 hx hb hml hown hts hN hK hX hbl hDC hDM hap hap2 j (by omega) σ τ hI H locs hPC hPM hS _ _ _ _ _ _ (key 1 (by omega)) (key 2 (by omega)) (key 3 (by omega)) (key 4 (by omega)) (key 5 (by omega)) rfl rfl rfl rfl rfl ls hl hend
      by_cases c19 : w0 = 19
      · refine lv_tableIn (pc := 33) (off := 822) (tgt := 855) hx hb dL_law_33 (by rw [c19]; decide) (by rw [c19]; decide) (by rw [c19]; rfl) (by decide) ?_
        exact law_case19 hx hb hml hown hts hN hK hX hbl hDC hDM hap hap2 j (by omega) σ τ hI H locs hPC hPM hS _ _ _ _ _ _ (key 1 (by omega)) (key 2 (by omega)) (key 3 (by omega)) (key 4 (by omega)) (key 5 (by omega)) rfl rfl rfl rfl rfl ls hl hend
      by_cases c20 : w0 = 20
      · refine lv_tableIn (pc := 33) (off := 845) (tgt := 878) hx hb dL_law_33 (by rw [c20]; decide) (by rw [c20]; decide) (by rw [c20]; rfl) (by decide) ?_
        exact law_case20 hx hb hml hown hts hN hK hX hbl hDC hDM hap hap2 j (by omega) σ τ hI H locs hPC hPM hS _ _ _ _ _ _ (key 1 (by omega)) (key 2 (by omega)) (key 3 (by omega)) (key 4 (by omega)) (key 5 (by omega)) rfl rfl rfl rfl rfl ls hl hend
      by_cases c21 : w0 = 21
      · refine lv_tableIn (pc := 33) (off := 879) (tgt := 912) hx hb dL_law_33 (by rw [c21]; decide) (by rw [c21]; decide) (by rw [c21]; rfl) (by decide) ?_
        exact law_case21 hx hb hml hown hts hN hK hX hbl hDC hDM hap hap2 j (by omega) σ τ hI H locs hPC hPM hS _ _ _ _ _ _ (key 1 (by omega)) (key 2 (by omega)) (key 3 (by omega)) (key 4 (by omega)) (key 5 (by omega)) rfl rfl rfl rfl rfl ls hl hend
      by_cases c22 : w0 = 22
      · refine lv_tableIn (pc := 33) (off := 922) (tgt := 955) hx hb dL_law_33 (by rw [c22]; decide) (by rw [c22]; decide) (by rw [c22]; rfl) (by decide) ?_
        exact law_case22 hx hb hml hown hts hN hK hX hbl hDC hDM hap hap2 j (by omega) σ τ hI H locs hPC hPM hS _ _ _ _ _ _ (key 1 (by omega)) (key 2 (by omega)) (key 3 (by omega)) (key 4 (by omega)) (key 5 (by omega)) rfl rfl rfl rfl rfl ls hl hend
      by_cases c23 : w0 = 23
      · refine lv_tableIn (pc := 33) (off := 945) (tgt := 978) hx hb dL_law_33 (by rw [c23]; decide) (by rw [c23]; decide) (by rw [c23]; rfl) (by decide) ?_
        exact law_case23 hx hb hml hown hts hN hK hX hbl hDC hDM hap hap2 j (by omega) σ τ hI H locs hPC hPM hS _ _ _ _ _ _ (key 1 (by omega)) (key 2 (by omega)) (key 3 (by omega)) (key 4 (by omega)) (key 5 (by omega)) rfl rfl rfl rfl rfl ls hl hend
      by_cases c24 : w0 = 24
      · refine lv_tableIn (pc := 33) (off := 988) (tgt := 1021) hx hb dL_law_33 (by rw [c24]; decide) (by rw [c24]; decide) (by rw [c24]; rfl) (by decide) ?_
        exact law_case24 hx hb hml hown hts hN hK hX hbl hDC hDM hap hap2 j (by omega) σ τ hI H locs hPC hPM hS _ _ _ _ _ _ (key 1 (by omega)) (key 2 (by omega)) (key 3 (by omega)) (key 4 (by omega)) (key 5 (by omega)) rfl rfl rfl rfl rfl ls hl hend
      by_cases c25 : w0 = 25
      · refine lv_tableIn (pc := 33) (off := 1032) (tgt := 1065) hx hb dL_law_33 (by rw [c25]; decide) (by rw [c25]; decide) (by rw [c25]; rfl) (by decide) ?_
        exact law_case25 hx hb hml hown hts hN hK hX hbl hDC hDM hap hap2 j (by omega) σ τ hI H locs hPC hPM hS _ _ _ _ _ _ (key 1 (by omega)) (key 2 (by omega)) (key 3 (by omega)) (key 4 (by omega)) (key 5 (by omega)) rfl rfl rfl rfl rfl ls hl hend
      by_cases c26 : w0 = 26
      · refine lv_tableIn (pc := 33) (off := 1095) (tgt := 1128) hx hb dL_law_33 (by rw [c26]; decide) (by rw [c26]; decide) (by rw [c26]; rfl) (by decide) ?_
        exact law_case26 hx hb hml hown hts hN hK hX hbl hDC hDM hap hap2 j (by omega) σ τ hI H locs hPC hPM hS _ _ _ _ _ _ (key 1 (by omega)) (key 2 (by omega)) (key 3 (by omega)) (key 4 (by omega)) (key 5 (by omega)) rfl rfl rfl rfl rfl ls hl hend
      by_cases c27 : w0 = 27
      · refine lv_tableIn (pc := 33) (off := 1118) (tgt := 1151) hx hb dL_law_33 (by rw [c27]; decide) (by rw [c27]; decide) (by rw [c27]; rfl) (by decide) ?_
        exact law_case27 hx hb hml hown hts hN hK hX hbl hDC hDM hap hap2 j (by omega) σ τ hI H locs hPC hPM hS _ _ _ _ _ _ (key 1 (by omega)) (key 2 (by omega)) (key 3 (by omega)) (key 4 (by omega)) (key 5 (by omega)) rfl rfl rfl rfl rfl ls hl hend
      by_cases c28 : w0 = 28
      · refine lv_tableIn (pc := 33) (off := 1141) (tgt := 1174) hx hb dL_law_33 (by rw [c28]; decide) (by rw [c28]; decide) (by rw [c28]; rfl) (by decide) ?_
        exact law_case28 hx hb hml hown hts hN hK hX hbl hDC hDM hap hap2 j (by omega) σ τ hI H locs hPC hPM hS _ _ _ _ _ _ (key 1 (by omega)) (key 2 (by omega)) (key 3 (by omega)) (key 4 (by omega)) (key 5 (by omega)) rfl rfl rfl rfl rfl ls hl hend
      by_cases c29 : w0 = 29
      · refine lv_tableIn (pc := 33) (off := 1174) (tgt := 1207) hx hb dL_law_33 (by rw [c29]; decide) (by rw [c29]; decide) (by rw [c29]; rfl) (by decide) ?_
        exact law_case29 hx hb hml hown hts hN hK hX hbl hDC hDM hap hap2 j (by omega) σ τ hI H locs hPC hPM hS _ _ _ _ _ _ (key 1 (by omega)) (key 2 (by omega)) (key 3 (by omega)) (key 4 (by omega)) (key 5 (by omega)) rfl rfl rfl rfl rfl ls hl hend
      by_cases c30 : w0 = 30
      · refine lv_tableIn (pc := 33) (off := 1187) (tgt := 1220) hx hb dL_law_33 (by rw [c30]; decide) (by rw [c30]; decide) (by rw [c30]; rfl) (by decide) ?_
        exact law_case30 hx hb hml hown hts hN hK hX hbl hDC hDM hap hap2 j (by omega) σ τ hI H locs hPC hPM hS _ _ _ _ _ _ (key 1 (by omega)) (key 2 (by omega)) (key 3 (by omega)) (key 4 (by omega)) (key 5 (by omega)) rfl rfl rfl rfl rfl ls hl hend
      by_cases c31 : w0 = 31
      · refine lv_tableIn (pc := 33) (off := 1200) (tgt := 1233) hx hb dL_law_33 (by rw [c31]; decide) (by rw [c31]; decide) (by rw [c31]; rfl) (by decide) ?_
        exact law_case31 hx hb hml hown hts hN hK hX hbl hDC hDM hap hap2 j (by omega) σ τ hI H locs hPC hPM hS _ _ _ _ _ _ (key 1 (by omega)) (key 2 (by omega)) (key 3 (by omega)) (key 4 (by omega)) (key 5 (by omega)) rfl rfl rfl rfl rfl ls hl hend
      refine lv_tableOut (pc := 33) (tgt := 1256) hx hb dL_law_33 (tsw32 c0 c1 c2 c3 c4 c5 c6 c7 c8 c9 c10 c11 c12 c13 c14 c15 c16 c17 c18 c19 c20 c21 c22 c23 c24 c25 c26 c27 c28 c29 c30 c31) (by decide) ?_
      exact hend σ τ (inv_mono hI) H locs hPC hPM hS
theorem arr_known {s : State} {args : Array Value} {aty : ArrayType} {ty : FieldType} (hty : newarray.typeOf aty = ty) (h : (Cond.arrayClass (newarray.typeOf aty)).before args s = true) : ∃ cA : ClassId, ArrOfT s cA ty ∧ s.vm.findClass ("[" ++ ty.toString) = some cA := by
  subst hty
  obtain ⟨cA, kA, comp, h1, h2, h3⟩ := Cond.arrayClass_spec h
  exact ⟨cA, fun n z => ⟨fun k h => (by cases h), kA, h2, comp, h3⟩, h1⟩
set_option maxHeartbeats 4000000 in
set_option maxRecDepth 100000 in
theorem whole_start {p : Program} {e : Env} {s : State} {m : MethodId} {below : List Frame} {meth : Method} {c : Code} (l : Launch) (hflags : l.flags = flags0) {b L : Nat} {xs : Nat → Int32} (hL : L ≤ 3072) (C0 : lw_At p s m meth c b L xs) : W p l e room_1 s m #[Value.ref b] below meth c s.heap [] 0 0 (lw_Z below #[Value.ref b] s) (entryFrame m ([Value.ref b] : List Value).toArray 4) := by
  obtain ⟨hx, hb, hr, hml, hown, hts, hX, hbl, hlocks, hgv⟩ := id C0
  have hA : ∀ q : Nat, s.heap.size ≤ q → (fun q : Nat => s.heap.size ≤ q) q := fun _ h => h
  have hbA : ¬ (fun q : Nat => s.heap.size ≤ q) b := Nat.not_le.mpr hbl
  have hN : NW s := fun w hw hn => by
    have h1 := hts w (List.mem_append_right _ hw)
    cases w <;> first | exact va_Nw.of rfl h1 | exact absurd hn (by simp [isNest])

  obtain ⟨c0, iS0, hKn0⟩ := u_known (C := RX0) (T := TX0) (N := 4) (n := 4) hts (fun w hw => inG_tbl w (uw_X0 w hw)) (hts _ (inG_tbl _ isb_X0))
  obtain ⟨c1, iS1, hKn1⟩ := u_known (C := RX1) (T := TX1) (N := 10) (n := 10) hts (fun w hw => inG_tbl w (uw_X1 w hw)) (hts _ (inG_tbl _ isb_X1))
  obtain ⟨c2, iS2, hKn2⟩ := u_known (C := RX2) (T := TX2) (N := 4) (n := 4) hts (fun w hw => inG_tbl w (uw_X2 w hw)) (hts _ (inG_tbl _ isb_X2))
  obtain ⟨c3, iS3, hKn3⟩ := u_known (C := RX3) (T := TX3) (N := 7) (n := 7) hts (fun w hw => inG_tbl w (uw_X3 w hw)) (hts _ (inG_tbl _ isb_X3))
  obtain ⟨c4, iS4, hKn4⟩ := u_known (C := RX4) (T := TX4) (N := 9) (n := 9) hts (fun w hw => inG_tbl w (uw_X4 w hw)) (hts _ (inG_tbl _ isb_X4))
  obtain ⟨c5, iS5, hKn5⟩ := u_known (C := RX5) (T := TX5) (N := 9) (n := 9) hts (fun w hw => inG_tbl w (uw_X5 w hw)) (hts _ (inG_tbl _ isb_X5))
  obtain ⟨c6, iS6, hKn6⟩ := u_known (C := RX6) (T := TX6) (N := 6) (n := 6) hts (fun w hw => inG_tbl w (uw_X6 w hw)) (hts _ (inG_tbl _ isb_X6))
  obtain ⟨c7, iS7, hKn7⟩ := u_known (C := RX7) (T := TX7) (N := 3) (n := 3) hts (fun w hw => inG_tbl w (uw_X7 w hw)) (hts _ (inG_tbl _ isb_X7))
  obtain ⟨c8, iS8, hKn8⟩ := u_known (C := RX8) (T := TX8) (N := 14) (n := 14) hts (fun w hw => inG_tbl w (uw_X8 w hw)) (hts _ (inG_tbl _ isb_X8))
  obtain ⟨c9, iS9, hKn9⟩ := u_known (C := RX9) (T := TX9) (N := 37) (n := 37) hts (fun w hw => inG_tbl w (uw_X9 w hw)) (hts _ (inG_tbl _ isb_X9))
  obtain ⟨dC, dI, hKc⟩ : ∃ (dC : Nat → ClassId) (dI : Nat → Nat → Nat), ∀ (k : Nat) (q : vw_C), vwCl[k]? = some q → u_Kn s q.1 q.2.1 q.2.2 (dC k) (dI k) := by
    refine ⟨fun k => if k = 0 then c0 else if k = 1 then c1 else if k = 2 then c2 else if k = 3 then c3 else if k = 4 then c4 else if k = 5 then c5 else if k = 6 then c6 else if k = 7 then c7 else if k = 8 then c8 else c9, fun k => if k = 0 then iS0 else if k = 1 then iS1 else if k = 2 then iS2 else if k = 3 then iS3 else if k = 4 then iS4 else if k = 5 then iS5 else if k = 6 then iS6 else if k = 7 then iS7 else if k = 8 then iS8 else iS9, ?_⟩
    intro k q hq
    match k, hq with
    | 0, hq => cases hq; exact hKn0
    | 1, hq => cases hq; exact hKn1
    | 2, hq => cases hq; exact hKn2
    | 3, hq => cases hq; exact hKn3
    | 4, hq => cases hq; exact hKn4
    | 5, hq => cases hq; exact hKn5
    | 6, hq => cases hq; exact hKn6
    | 7, hq => cases hq; exact hKn7
    | 8, hq => cases hq; exact hKn8
    | 9, hq => cases hq; exact hKn9
    | k + 10, hq => simp [vwCl] at hq
  obtain ⟨cI, hcI, hnI⟩ := arr_known (aty := .int) (ty := .int) rfl (hts _ (inG_tbl _ arc_int))
  obtain ⟨cL, hcL, hnL⟩ := arr_known (aty := .long) (ty := .long) rfl (hts _ (inG_tbl _ arc_long))
  have hK : va_K (dC, dI) vwCl [(cI, .int), (cL, .long)] s := by
    refine ⟨hKc, fun k q hq => ?_⟩
    match k, hq with
    | 0, hq => cases hq; exact ⟨hcI, hnI⟩
    | 1, hq => cases hq; exact ⟨hcL, hnL⟩
    | k + 2, hq => simp at hq
  have hS : va_S (fun q : Nat => s.heap.size ≤ q) s.heap s.heap [] := va_S.rf
  have hP : va_P (dC, dI) vwCl [] s.heap := fun k q h => by simp at h
  have hD : va_D (fun q : Nat => s.heap.size ≤ q) [] := ⟨fun i j p q h => by simp at h, fun k q h => by simp at h⟩
  have hl := lv_entry ([.ref b]) (n := 4) (Nat.le_of_ble_eq_true rfl)
  rw [lg_entry_eq]
  generalize (lg_sl ([.ref b]) ++ List.replicate (4 - (lg_sl ([.ref b])).length) Slot.unset).toArray = ls at hl ⊢
  have hl : lv_has ls 4 [(0, .ref b)] := hl
  refine va_new (pc := 0) (ci := 8) (fs := [.null, .null, .null, .null, .null, .null, .null, .null, .null, .null, .null, .int 0, .int 0, .int 0]) (C := RX8) (T := TX8) (N := 14) hx hb hts (fun w hw => inG_tbl w (uw_X8 w hw)) tyX8 tyX8_ok hown (hts _ (inG_tbl _ ck_L_7)) (hts _ (inG_tbl _ isb_X8)) (hts _ (inG_tbl _ ini_X8)) hK hP hD hS hA rfl (fun j hj => by rcases (show j = 0 ∨ j = 1 ∨ j = 2 ∨ j = 3 ∨ j = 4 ∨ j = 5 ∨ j = 6 ∨ j = 7 ∨ j = 8 ∨ j = 9 ∨ j = 10 ∨ j = 11 ∨ j = 12 ∨ j = 13 by omega) with rfl | rfl | rfl | rfl | rfl | rfl | rfl | rfl | rfl | rfl | rfl | rfl | rfl | rfl <;> rfl) (Nat.le_of_ble_eq_true rfl) (Nat.le_of_ble_eq_true rfl) dL_law_0 (fun q8 H hP hD hS => ?_)
  have hP : va_P (dC, dI) vwCl [(q8, .inr (8, [.null, .null, .null, .null, .null, .null, .null, .null, .null, .null, .null, .int 0, .int 0, .int 0]))] H := hP
  have hD : va_D (fun q : Nat => s.heap.size ≤ q) [(q8, .inr (8, [.null, .null, .null, .null, .null, .null, .null, .null, .null, .null, .null, .int 0, .int 0, .int 0]))] := hD
  refine lv_dup (pc := 3) hx hb dL_law_3 rfl ?_
  have hPc := hP.sub (ws' := [(q8, .inr (8, [.null, .null, .null, .null, .null, .null, .null, .null, .null, .null, .null, .int 0, .int 0, .int 0]))]) [0] rfl
  have hDc := hD.sub (ws' := [(q8, .inr (8, [.null, .null, .null, .null, .null, .null, .null, .null, .null, .null, .null, .int 0, .int 0, .int 0]))]) [0] (by decide) rfl
  have hFc := va_free (wc := [(q8, .inr (8, [.null, .null, .null, .null, .null, .null, .null, .null, .null, .null, .null, .int 0, .int 0, .int 0]))]) hD hS hA [0] rfl
  refine va_callv (va_runI (As := []) (rest := [.ref q8]) ⟨hx, hb, hml, hown, hts⟩ (c8_init (dC, dI) cI cL q8 H.size) (cwI 0 hts (cinit_good cd_X8_init) rfl rfl rfl (hts _ (inG_tbl _ ini_X8)) (hts _ (inG_tbl _ ml_L_9)) (hts _ (inG_tbl _ im_X8_init)) rfl pd_X8_init ⟨Nat.le_of_ble_eq_true rfl, Nat.le_of_ble_eq_true rfl⟩) ⟨cblind, fun U hU hW => ⟨rfl, by rw [hU], by rw [hU]; exact hPc, va_K.moved hW.alike hK, hDc.weaken (fun _ _ _ _ => trivial), NW.warm hW hN⟩⟩ rfl rfl hl.1 rfl (lv_room (Nat.le_of_ble_eq_true rfl)) dL_law_4 ⟨Nat.le_of_ble_eq_true rfl, Nat.le_of_ble_eq_true rfl⟩) hS (fun q _ h => hFc q h) hFc (fun ad8 t H1 locs ht hvm hw hB hz1 hk1 hS => ?_)
  obtain ⟨hz8, hP8, hD8⟩ := hB
  rw [ht] at hP8
  have hDC0 : va_D (fun q : Nat => s.heap.size ≤ q) (wd SC cI cL ad8 sC0) := hD8.weaken (fun k q _ h => hFc q.1 h)
  generalize H1 = H at hP8 hS ⊢
  refine lv_astore_n (pc := 7) (lv' := [(1, .ref q8), (0, .ref b)]) hx hb dL_law_7 rfl hl (by decide) rfl (fun ls hl => ?_)
  have hP := hP8
  have hD := hDC0
  refine va_new (pc := 8) (ci := 9) (fs := [.int 0, .int 0, .int 0, .int 0, .int 0, .null, .null, .null, .null, .null, .null, .int 0, .int 0, .int 0, .int 0, .null, .null, .null, .null, .null, .null, .null, .null, .int 0, .int 0, .null, .null, .null, .null, .int 0, .null, .null, .null, .null, .null, .null, .int 0]) (C := RX9) (T := TX9) (N := 37) hx hb hts (fun w hw => inG_tbl w (uw_X9 w hw)) tyX9 tyX9_ok hown (hts _ (inG_tbl _ ck_L_10)) (hts _ (inG_tbl _ isb_X9)) (hts _ (inG_tbl _ ini_X9)) hK hP hD hS hA rfl (fun j hj => by rcases (show j = 0 ∨ j = 1 ∨ j = 2 ∨ j = 3 ∨ j = 4 ∨ j = 5 ∨ j = 6 ∨ j = 7 ∨ j = 8 ∨ j = 9 ∨ j = 10 ∨ j = 11 ∨ j = 12 ∨ j = 13 ∨ j = 14 ∨ j = 15 ∨ j = 16 ∨ j = 17 ∨ j = 18 ∨ j = 19 ∨ j = 20 ∨ j = 21 ∨ j = 22 ∨ j = 23 ∨ j = 24 ∨ j = 25 ∨ j = 26 ∨ j = 27 ∨ j = 28 ∨ j = 29 ∨ j = 30 ∨ j = 31 ∨ j = 32 ∨ j = 33 ∨ j = 34 ∨ j = 35 ∨ j = 36 by omega) with rfl | rfl | rfl | rfl | rfl | rfl | rfl | rfl | rfl | rfl | rfl | rfl | rfl | rfl | rfl | rfl | rfl | rfl | rfl | rfl | rfl | rfl | rfl | rfl | rfl | rfl | rfl | rfl | rfl | rfl | rfl | rfl | rfl | rfl | rfl | rfl | rfl <;> rfl) (Nat.le_of_ble_eq_true rfl) (Nat.le_of_ble_eq_true rfl) dL_law_8 (fun q9 H hP hD hS => ?_)
  have hP9c : va_P (dC, dI) vwCl [(q9, .inr (9, [.int 0, .int 0, .int 0, .int 0, .int 0, .null, .null, .null, .null, .null, .null, .int 0, .int 0, .int 0, .int 0, .null, .null, .null, .null, .null, .null, .null, .null, .int 0, .int 0, .null, .null, .null, .null, .int 0, .null, .null, .null, .null, .null, .null, .int 0]))] H := fun k q hq => by
    have h1 : k < 1 := (List.getElem?_eq_some_iff.mp hq).1
    exact hP (k + (wd SC cI cL ad8 sC0).length) q (by rw [List.getElem?_append_right (by omega), Nat.add_sub_cancel]; exact hq)
  have hPC : va_P (dC, dI) vwCl (wd SC cI cL ad8 sC0) H := fun k q hq => hP k q (by rw [List.getElem?_append_left (List.getElem?_eq_some_iff.mp hq).1]; exact hq)
  have hq9 : ∀ (i : Nat) (x : Nat × va_E), (wd SC cI cL ad8 sC0)[i]? = some x → x.1 ≠ q9 := by
    intro i x hi hne
    have hlt := (List.getElem?_eq_some_iff.mp hi).1
    have h2 := hD.1 i (0 + (wd SC cI cL ad8 sC0).length) x (q9, _) (by rw [List.getElem?_append_left hlt]; exact hi) (by rw [List.getElem?_append_right (by omega), Nat.add_sub_cancel]; rfl) hne
    omega
  have hD9c : va_D (fun q : Nat => s.heap.size ≤ q) [(q9, .inr (9, [.int 0, .int 0, .int 0, .int 0, .int 0, .null, .null, .null, .null, .null, .null, .int 0, .int 0, .int 0, .int 0, .null, .null, .null, .null, .null, .null, .null, .null, .int 0, .int 0, .null, .null, .null, .null, .int 0, .null, .null, .null, .null, .null, .null, .int 0]))] := ⟨fun i j x y hi hj _ => by
    have h1 : i < 1 := (List.getElem?_eq_some_iff.mp hi).1
    have h2 : j < 1 := (List.getElem?_eq_some_iff.mp hj).1
    omega, fun k q hq => by
    exact hD.2 (k + (wd SC cI cL ad8 sC0).length) q (by rw [List.getElem?_append_right (by omega), Nat.add_sub_cancel]; exact hq)⟩
  have hP := hP9c
  have hD := hD9c
  refine lv_dup (pc := 11) hx hb dL_law_11 rfl ?_
  have hPc := hP.sub (ws' := [(q9, .inr (9, [.int 0, .int 0, .int 0, .int 0, .int 0, .null, .null, .null, .null, .null, .null, .int 0, .int 0, .int 0, .int 0, .null, .null, .null, .null, .null, .null, .null, .null, .int 0, .int 0, .null, .null, .null, .null, .int 0, .null, .null, .null, .null, .null, .null, .int 0]))]) [0] rfl
  have hDc := hD.sub (ws' := [(q9, .inr (9, [.int 0, .int 0, .int 0, .int 0, .int 0, .null, .null, .null, .null, .null, .null, .int 0, .int 0, .int 0, .int 0, .null, .null, .null, .null, .null, .null, .null, .null, .int 0, .int 0, .null, .null, .null, .null, .int 0, .null, .null, .null, .null, .null, .null, .int 0]))]) [0] (by decide) rfl
  have hFc := va_free (wc := [(q9, .inr (9, [.int 0, .int 0, .int 0, .int 0, .int 0, .null, .null, .null, .null, .null, .null, .int 0, .int 0, .int 0, .int 0, .null, .null, .null, .null, .null, .null, .null, .null, .int 0, .int 0, .null, .null, .null, .null, .int 0, .null, .null, .null, .null, .null, .null, .int 0]))]) hD hS hA [0] rfl
  refine va_callv (va_runI (As := []) (rest := [.ref q9]) ⟨hx, hb, hml, hown, hts⟩ (c9_init (dC, dI) cI cL q9 H.size) (cwI 0 hts (cinit_good cd_X9_init) rfl rfl rfl (hts _ (inG_tbl _ ini_X9)) (hts _ (inG_tbl _ ml_L_12)) (hts _ (inG_tbl _ im_X9_init)) rfl pd_X9_init ⟨Nat.le_of_ble_eq_true rfl, Nat.le_of_ble_eq_true rfl⟩) ⟨cblind, fun U hU hW => ⟨rfl, by rw [hU], by rw [hU]; exact hPc, va_K.moved hW.alike hK, hDc.weaken (fun _ _ _ _ => trivial), NW.warm hW hN⟩⟩ rfl rfl hl.1 rfl (lv_room (Nat.le_of_ble_eq_true rfl)) dL_law_12 ⟨Nat.le_of_ble_eq_true rfl, Nat.le_of_ble_eq_true rfl⟩) hS (fun q _ h => hFc q h) hFc (fun ad9 t H1 locs ht hvm hw hB hz1 hk1 hS => ?_)
  obtain ⟨hz9, hP9, hD9⟩ := hB
  rw [ht] at hP9
  have hDM0 : va_D (fun q : Nat => s.heap.size ≤ q) (wd SM cI cL ad9 sM0) := hD9.weaken (fun k q _ h => hFc q.1 h)
  have hltC : ∀ (i : Nat) (x : Nat × va_E), (wd SC cI cL ad8 sC0)[i]? = some x → x.1 < H.size ∧ ¬ va_A [(q9, .inr (9, [.int 0, .int 0, .int 0, .int 0, .int 0, .null, .null, .null, .null, .null, .null, .int 0, .int 0, .int 0, .int 0, .null, .null, .null, .null, .null, .null, .null, .null, .int 0, .int 0, .null, .null, .null, .null, .int 0, .null, .null, .null, .null, .null, .null, .int 0]))] H.size x.1 := by
    intro i x hi
    have hlt := (hPC i x hi).lt
    refine ⟨hlt, ?_⟩
    rintro (⟨k, e, hk⟩ | h)
    · have h1 : k < 1 := (List.getElem?_eq_some_iff.mp hk).1
      rw [show k = 0 by omega] at hk
      exact hq9 i x hi (congrArg Prod.fst (Option.some.inj hk)).symm
    · omega
  have hPC : va_P (dC, dI) vwCl (wd SC cI cL ad8 sC0) H1 := fun k q hq => (hPC k q hq).kept (hk1 q.1 (hltC k q hq).1 (hltC k q hq).2)
  have z2 : ∀ (S : Shp) (ad : Nat → Nat) (σ σ' : HS) (k : Nat) (x : Nat × va_E), (wd S cI cL ad σ)[k]? = some x → ∃ y, (wd S cI cL ad σ')[k]? = some y ∧ y.1 = x.1 := by
    intro S ad σ σ' k x hk
    rw [wd_get] at hk ⊢
    cases hS : S[k]? with
    | none => rw [hS] at hk; cases hk
    | some d => rw [hS] at hk; cases hk; exact ⟨_, rfl, rfl⟩
  have hap : Apart2 SC SM cI cL ad8 ad9 := by
    intro i j x y hi hj hne
    obtain ⟨x2, hx2, ex2⟩ := z2 SC ad8 zHS sC0 i x hi
    obtain ⟨y2, hy2, ey2⟩ := z2 SM ad9 zHS sM0 j y hj
    exact (hltC i x2 hx2).2 (by rw [ex2, hne, ← ey2]; exact hD9.2 j y2 hy2)
  generalize H1 = H at hP9 hPC hS ⊢
  refine lv_astore_n (pc := 15) (lv' := [(2, .ref q9), (1, .ref q8), (0, .ref b)]) hx hb dL_law_15 rfl hl (by decide) rfl (fun ls hl => ?_)
  refine lv_iconst (pc := 16) (v := 0) hx hb dL_law_16 (by decide) ?_
  refine lv_istore_n (pc := 17) (lv' := [(3, .int 0), (2, .ref q9), (1, .ref q8), (0, .ref b)]) hx hb dL_law_17 rfl hl (by decide) rfl (fun ls hl => ?_)
  refine W.widen (k := 72) (n := 10389) (Nat.le_of_ble_eq_true rfl) (Nat.le_of_ble_eq_true rfl) ?_
  rw [← hz8, ← hz9] at hl
  exact law_loop hx hb hml hown hts hN hK hX hbl (wd_D hDC0) (wd_D hDM0) hap (fun i j x y hi hj hne => hap j i y x hj hi hne.symm) hL hr hlocks 513 0 (by omega) (by omega) sC0 sM0 inv_start H locs hPC hP9 hS ls (lv_sub hl [3, 2, 1, 0] rfl)
-- ===== YOUR PART ENDS =====
set_option maxHeartbeats 4000000 in
theorem lw_walk (l : Launch) (hflags : l.flags = flags0) (b : Addr) (xs : List Int32) : MetFree l x (headSpec (Jvm.Cond.code x code maxLocals ret :: tables_1) room_1) (lw_P b xs) (fun _ _ _ _ _ => True) lw_Q := by
  refine MetFree.of_bodyS (code := code) (maxLocals := maxLocals) (ret := ret) (by decide) ?_ ?_
  · intro args s m h hn
    obtain ⟨meth, c, h1, h2, h3, h4, h5, h6, -, -⟩ := Cond.code_spec hn (atoms_spec (ws := Jvm.Cond.code x code maxLocals ret :: tables_1) h _ List.mem_cons_self)
    exact ⟨meth, c, h1, h2, h3, h4, h5, h6⟩
  · intro p e s m args below meth c s₁ B hml0 hP _
    obtain ⟨rfl, hx, hbd, hgv⟩ := hP
    obtain ⟨scr, harrAt, hlist, hof, hsmall⟩ := hx
    obtain ⟨hcb, hkn, -, -⟩ := State.arrayAt?_spec harrAt
    have hown : s.vm.findClass R_law = some m.cls := findClass_of_methodNamed B.named
    have hts0 : ∀ c ∈ (Jvm.Cond.code x code maxLocals ret :: tables_1), c.before #[Value.ref b] s = true := atoms_spec (ws := Jvm.Cond.code x code maxLocals ret :: tables_1) B.pre
    have hts : ∀ w ∈ lw_tbl, w.before #[Value.ref b] s = true := k2_hts_sels lw_privs (fun w hw => hts0 w (List.mem_cons_of_mem _ hw)) lw_privs_ok
    have hml : c.maxLocals = 4 := B.maxLocals_eq (hts0 _ List.mem_cons_self)
    have X₀ : Stand p l e room_1 s m #[Value.ref b] below meth c s₁ [] 0 0 := Stand.of_body B
    have hh0 : s₁.heap = s.heap := by rw [B.state]; rfl
    have hsz : scr.slots.size = xs.length := by rw [← Array.length_toList, hlist, List.length_map]
    have hval : ∀ j : Nat, j < xs.length → scr.slots[j]? = some (.int (xs.getD j 0)) := fun j hj => by
      rw [← Array.getElem?_toList, hlist]
      simp [hj]
    have hbl : b < s.heap.size := (Array.getElem?_eq_some_iff.mp hcb).1
    have hX : va_X b xs.length (fun j => xs.getD j 0) s s.heap := ⟨scr, hcb, hof, hkn, hsz, hval⟩
    have K : W p l e room_1 s m #[Value.ref b] below meth c s₁.heap [] 0 0 (lw_Z below #[Value.ref b] s) (entryFrame m ([Value.ref b] : List Value).toArray 4) := by
      rw [hh0]
      exact whole_start l hflags hbd ⟨B.exec, B.bytes, B.returns, hml, hown, hts, hX, hbl, B.notSynchronized, hgv⟩
    obtain ⟨t, a1, o, b1, b2, b3⟩ := K s₁ rfl X₀
    exact ⟨t, o, a1, b1, b2, b3⟩
theorem lw_pre_spec {args : Array Value} {s : State} (h : (Jvm.Cond.and given_1 narrow_1).before args s = true) (hr : rest_1_c.before args s = true) : ∃ (b : Addr) (xs : List Int32), lw_P b xs args s := by
  have hs := flat_of_before _ h
  have hq := flat_of_before _ hr
  have hc : (Cond.count 1).before args s = true := hs _ (by decide +kernel)
  have harr : (Cond.arrayOf (.arg 0) .int).before args s = true := hs _ (by decide +kernel)
  have hle : (Cond.le (.length (.arg 0)) (.int 3072)).before args s = true := hs _ (by decide +kernel)
  have hlen : (Cond.isInt (.length (.arg 0))).before args s = true := hq _ (by decide +kernel)
  have hall : (Cond.all (.arg 0) (.isInt (.elem (.arg 0) (.index 0)))).before args s = true := hq _ (by decide +kernel)
  obtain ⟨b, xs, hb, hx⟩ := State.ints_of_pre rfl harr hlen hall
  have hsm : xs.length < 2 ^ 31 := hx.choose_spec.2.2.2
  have hev : (Term.length (.arg 0)).eval args s none [] s = some (.int xs.length.toInt32) := hx.length_eval hb
  have hv := Cond.le_ints hev (show (Term.int 3072).eval args s none [] s = some (.int 3072) from rfl)
  have hd : xs.length.toInt32 ≤ 3072 := by
    simpa [Cond.before, Cond.holds, hv] using hle
  have hN : xs.length ≤ 3072 := (Int32.ofNat_le_ofNat hsm (by decide)).mp (show Int32.ofNat xs.length ≤ Int32.ofNat 3072 from hd)
  exact ⟨b, xs, Cond.one_arg hc (show args[0]? = some (.ref b) from hb), hx, hN, h⟩
theorem lw_comes (l : Launch) (hflags : l.flags = flags0) : Comes l x (Jvm.Cond.code x code maxLocals ret :: tables_1) room_1 (fun tb e args s => Calls_1 tb e args s ∧ rest_1 tb e args s ∧ Pre_1 tb e args s)
    (fun _ _ args s o t => lw_Q args s o t) := by
  intro p e ha hc hk s m args below hf hfit hheap happ hpre
  obtain ⟨b, xs, hP⟩ := lw_pre_spec hpre.2.2 hpre.2.1
  obtain ⟨k, o, h1, h2, h3, hQ⟩ := lw_walk l hflags b xs p e ha hc hk s m args below hf ((Spec.applies_iff_loose hf).mp happ).1 hP trivial
  exact ⟨k, o, h1, h2, h3, hQ⟩
theorem lw_frame {s t : State} {o : Outcome} {args : Array Value} (h : Framed s o t [] 72 10389) :
    Framed s o t (fieldLocs frame_1_writes args s ++ arrayLocs frame_1_arrays args s ++ staticLocs frame_1_statics s) 72 10389 := h
theorem lw_limb (L : Cond) (hL : ∀ (args : Array Value) (s t : State), L.after args s (.returned (some (.int 1))) t = true) :
    ArmFor flags0 classFile x code maxLocals ret World_1 tables_1 room_1 Calls_1 rest_1 Pre_1
      (fun tb e a s o t => postC L tb e a s o t ∧ Framed s o t (fieldLocs frame_1_writes a s ++ arrayLocs frame_1_arrays a s ++ staticLocs frame_1_statics s) 72 10389) := by
  intro l hflags _ _ p e ha hc hk s m args below hf hfit hheap happ hpre
  obtain ⟨k, o, h1, h2, h3, rfl, hF⟩ := lw_comes l hflags p e ha hc hk s m args below hf hfit hheap happ hpre
  exact ⟨k, _, h1, h2, h3, hL args s _, lw_frame hF⟩
theorem i_vc : Claimed_1_1 ∧ Claimed_1_2 := ⟨lw_limb limb_1_1 (fun args s t => by simp [limb_1_1, Cond.after, Cond.holds, Cond.value]), lw_limb limb_1_2 (fun args s t => Cond.after_iff.mpr (by
  first | (rw [show limb_1_2 = Cond.eq .result (.int 1) from rfl, Cond.eq_ints (x := 1) (y := 1) rfl rfl]; simp; done) | (simp [limb_1_2, Cond.value, Term.eval]; done)))⟩

