/-! CALLS: a method by contract over a whole world of numbered cells (MA), out of its body (AR), and its use at a call -/
def MA (l : Launch) (y : MethodName) (ws : List Cond) (rm : Room) (S : Shp) (As : List Value) (σ : HS) (X : Option Value × HS) : Prop :=
  ∀ (D : va_G) (cI cL : ClassId) (ad : Nat → Nat) (sz : Nat), Met l y ws rm (va_Pc (As.map (mV ad)) (fun U => U.heap.size = sz ∧ va_P D vwCl (wd S cI cL ad σ) U.heap ∧ va_K D vwCl [(cI, .int), (cL, .long)] U ∧ va_D (fun _ => True) (wd S cI cL ad zHS) ∧ NW U))
    (fun _ st oc t => (oc = .returned (X.1.map (mV ad)) ∧ va_P D vwCl (wd S cI cL ad X.2) t.heap) ∧ va_F (va_A (wd S cI cL ad zHS) sz) st t) 0 0 (va_A (wd S cI cL ad zHS) sz)
theorem ma_blind {S : Shp} {As : List Value} {σ : HS} {D : va_G} {cI cL : ClassId} {ad : Nat → Nat} {sz : Nat} : FrameBlind (va_Pc (As.map (mV ad)) (fun U => U.heap.size = sz ∧ va_P D vwCl (wd S cI cL ad σ) U.heap ∧ va_K D vwCl [(cI, .int), (cL, .long)] U ∧ va_D (fun _ => True) (wd S cI cL ad zHS) ∧ NW U)) := by
  intro a U g mk q
  obtain ⟨q0, q1, qP, qK, qD, qN⟩ := q
  exact ⟨q0, q1, qP, va_K.moved (u := U) (U := U.calling g mk a) (Vm.Alike.refl U.vm) qK, qD, NW.same (u := U) (U := U.calling g mk a) rfl qN⟩
theorem MA.of {l : Launch} {y : MethodName} {own : String} {cc : ByteArray} {nL : Nat} {ret : Option FieldType} {rm : Room} {S : Shp} {As : List Value} {σ : HS} {X : Option Value × HS} {L : List (Nat × Value)}
    (hy : plainName y.cls = true) (ho : y.cls = own) (hn : ∀ ad : Nat → Nat, (lg_sl (As.map (mV ad))).length ≤ nL) (hL : ∀ ad : Nat → Nat, lv_args 0 (As.map (mV ad)) = mL ad L)
    (h : AR l own cc nL ret (wsU y cc nL ret) rm S 0 L [] σ X) : MA l y (wsU y cc nL ret) rm S As σ X := by
  intro D cI cL ad sz
  refine Met.ofW (cc := cc) (maxL := nL) (ret := ret) hy rfl ?_
  intro p e s m args below meth c s₁ B hml hv
  obtain ⟨rfl, hsz, hP, hK, hD0, hN⟩ := hv
  have hts := atoms_spec (ws := wsU y cc nL ret) B.pre
  have hown : s.vm.findClass y.cls = some m.cls := findClass_of_methodNamed B.named
  rw [ho] at hown
  subst hsz
  have hl := lv_entry (As.map (mV ad)) (n := nL) (hn ad)
  rw [hL ad] at hl
  rw [lg_entry_eq]
  exact h p e s m _ below meth c D cI cL ad (va_A (wd S cI cL ad zHS) s.heap.size) ⟨B.exec, B.bytes, hml, B.returns, hown, B.notSynchronized, hts, hN, hK, hD0.self, fun q hq => Or.inr hq⟩ s.heap [] _ _ hP va_S.rf hl
    (fun t H1 locs1 ht hW hP1 hS1 => ⟨⟨rfl, by rw [ht]; exact hP1⟩, hS1.F ht⟩)
section ARcalls
variable {p : Program} {l : Launch} {e : Env} {R : Room} {s : State} {m : MethodId} {args : Array Value} {below : List Frame} {meth : Method} {c : Code} {H : Heap} {locs : List Loc} {Q : State → Prop}
variable {pc : Nat} {ls : Array Slot} {rest st0 : List Value} {A0 A1 : Nat → Prop} {H0 : Heap} {free : Addr → Prop} {D : va_G} {w1 : va_W} {v : Option Value}
theorem ar_cont (hr : va_Run p l e R s m args below meth c H locs 0 0 0 0 (F0 m pc ls st0) rest (fun st oc t => (oc = .returned v ∧ va_P D vwCl w1 t.heap) ∧ va_F A1 st t) free) (hS : va_S A0 H0 H locs) (hA : ∀ q, q < H.size → A1 q → A0 q) (hf : ∀ q, free q → A0 q)
    (kk : ∀ (H1 : Heap) (locs1 : List Loc), va_P D vwCl w1 H1 → va_S A0 H0 H1 locs1 → W p l e R s m args below meth c H1 locs1 0 0 Q (F0 m (pc + 3) ls (v.toList ++ rest))) : W p l e R s m args below meth c H locs 0 0 Q (F0 m pc ls st0) := by
  intro T hT X
  obtain ⟨v2, st₀, t, T', L, h0, X', hL, e1, e2, ⟨⟨hv, hb⟩, hz, hk⟩, st⟩ := hr T hT X
  cases hv
  rw [h0] at hz hk
  rw [← e1] at hb
  obtain ⟨t2, a1, b1⟩ := kk T'.heap (locs ++ L) hb
    ⟨Nat.le_trans hS.1 (by rw [e1]; exact hz), fun q h1 h2 => by rw [e1, hk q (Nat.lt_of_lt_of_le h1 hS.1) (fun z => h2 (hA q (Nat.lt_of_lt_of_le h1 hS.1) z))]; exact hS.2.1 q h1 h2, fun q hq => by
      rcases List.mem_append.mp hq with h | h
      · exact hS.2.2 q h
      · exact hf _ (hL q h)⟩ T' rfl X'
  exact ⟨t2, st t2 a1, b1⟩
end ARcalls
theorem wd_lt {A : Nat → Prop} {S : Shp} {cI cL : ClassId} {ad : Nat → Nat} {H H0 : Heap} {locs : List Loc} (hD : va_D A (wd S cI cL ad zHS)) (hS : va_S A H0 H locs) (hA : ∀ q, H0.size ≤ q → A q) : ∀ q, va_A (wd S cI cL ad zHS) H.size q → A q := by
  intro q h
  rcases h with ⟨k, e, hk⟩ | h
  · exact hD.2 k (q, e) hk
  · exact hA q (Nat.le_trans hS.1 h)
theorem toList_mV (ad : Nat → Nat) (v : Option Value) (st : List Value) : (v.map (mV ad)).toList ++ st.map (mV ad) = (v.toList ++ st).map (mV ad) := by cases v <;> rfl
theorem cat_mV (ad : Nat → Nat) (st : List Value) : ((st.map (mV ad)).map fun v => v.category).sum = (st.map fun v => v.category).sum := by
  rw [List.map_map]; congr 1; apply List.map_congr_left; intro v _; exact mV_cat ad v
section ARcall
variable {l : Launch} {own : String} {cc : ByteArray} {nL : Nat} {ret : Option FieldType} {R : Room} {S : Shp} {pc : Nat} {L : List (Nat × Value)} {st stk : List Value} {σ σ1 : HS} {X : Option Value × HS}
variable {y y0 : MethodName} {b0 b2 : ByteArray} {n0 nL2 : Nat} {r0 ret2 : Option FieldType} {idx : Nat} {rm : Room} {As : List Value} {v : Option Value} {host Cn : String} {b ci n N : Nat} {ds : List Nat} {T : u_T}
/-- what a callee's words say, once a method -/
def CalV (y : MethodName) (b2 : ByteArray) (nL2 : Nat) (ret2 : Option FieldType) : Prop := Cond.code y b2 nL2 ret2 ∈ wsG ∧ Cond.instanceMethod y ∈ wsG ∧ Cond.selects y.cls y y ∈ wsG ∧ Cond.initialized y.cls ∈ wsG
def CalS (y : MethodName) (b2 : ByteArray) (nL2 : Nat) (ret2 : Option FieldType) : Prop := Cond.code y b2 nL2 ret2 ∈ wsG ∧ Cond.static y ∈ wsG ∧ Cond.initialized y.cls ∈ wsG
theorem calV_good (h : CalV y b2 nL2 ret2) (hl : Cond.methodLink own idx y ∈ wsG) : GoodIn (wsU y0 b0 n0 r0) (wsV own idx y.cls y (wsU y b2 nL2 ret2)) := by
  intro w hw
  rcases List.mem_append.mp hw with hw | hw
  · simp only [List.mem_cons, List.not_mem_nil, or_false] at hw
    rcases hw with rfl | rfl | rfl | rfl
    · exact ⟨wsU_in hl, wsL_ok hl⟩
    · exact ⟨wsU_in h.2.1, wsL_ok h.2.1⟩
    · exact ⟨wsU_in h.2.2.1, wsL_ok h.2.2.1⟩
    · exact ⟨wsU_in h.2.2.2, wsL_ok h.2.2.2⟩
  · exact wsU_good h.1 w hw
theorem calS_good (h : CalS y b2 nL2 ret2) (hl : Cond.methodLink own idx y ∈ wsG) (ho : y.cls = own) : GoodIn (wsU y0 b0 n0 r0) (wsS own idx y (wsU y b2 nL2 ret2)) := by
  intro w hw
  rcases List.mem_append.mp hw with hw | hw
  · simp only [List.mem_cons, List.not_mem_nil, or_false] at hw
    rcases hw with rfl | rfl | rfl
    · exact ⟨wsU_in hl, wsL_ok hl⟩
    · exact ⟨wsU_in h.2.1, wsL_ok h.2.1⟩
    · rw [← ho]; exact ⟨wsU_in h.2.2, wsL_ok h.2.2⟩
  · exact wsU_good h.1 w hw
theorem AR.callV (hd : decode cc pc = .ok (.invokevirtual idx, 3)) (hcal : CalV y b2 nL2 ret2) (hl : Cond.methodLink own idx y ∈ wsG) (hM : MA l y (wsU y b2 nL2 ret2) rm S (.ref b :: As) σ (v, σ1))
    (hcl : y.cls = Cn ∧ y.cls ≠ "java/lang/invoke/MethodHandle" ∧ y.cls ≠ "java/lang/invoke/VarHandle" ∧ (parseMethodDescriptor y.desc).map (fun d => d.parameters.length) = some As.length)
    (hR : rm.frames + 1 ≤ R.frames ∧ 8 + (nL2 + 11) + rm.locals ≤ R.locals) (hz : rm.cells = 0 ∧ rm.slots = 0) (hb : S[b]? = some (ci + 2, n, ds)) (hc : vwCl[ci]? = some (Cn, T, N)) (hst : stk = As.reverse ++ .ref b :: st) (hcat : (st.map fun v => v.category).sum ≤ 8)
    (h : AR l own cc nL ret (wsU y0 b0 n0 r0) R S (pc + 3) L (v.toList ++ st) σ1 X) : AR l own cc nL ret (wsU y0 b0 n0 r0) R S pc L stk σ X := by
  intro p e s m args below meth c D cI cL ad A C H locs ls Qc hP hS hll hq
  subst hst
  obtain ⟨hCn, hcl⟩ := hcl
  subst hCn
  refine ar_cont (va_runV (As := As.map (mV ad)) (rest := st.map (mV ad)) (g := F0 m pc ls ((As.reverse ++ .ref b :: st).map (mV ad))) ⟨C.1, C.2.1, C.2.2.1, C.2.2.2.2.1, C.2.2.2.2.2.2.1⟩ (hM D cI cL ad H.size) (cwV As.length C.2.2.2.2.2.2.1 (calV_good hcal hl) rfl hz.1 hz.2 ⟨rfl, hcl⟩ hR)
    ⟨ma_blind, va_recv C.2.2.2.2.2.2.2.2.1 hP hc (wd_at hb), fun U hU hW => ⟨rfl, by rw [hU], by rw [hU]; exact hP, va_K.moved hW.alike C.2.2.2.2.2.2.2.2.1, C.2.2.2.2.2.2.2.2.2.1.weaken (fun _ _ _ _ => trivial), NW.warm hW C.2.2.2.2.2.2.2.1⟩⟩ rfl (by simp) hll.1 (by simp [mV]) (lv_room (by rw [cat_mV]; exact hcat)) hd ⟨Nat.zero_le _, Nat.zero_le _⟩)
    hS (fun q _ z => wd_lt C.2.2.2.2.2.2.2.2.2.1 hS C.2.2.2.2.2.2.2.2.2.2 q z) (wd_lt C.2.2.2.2.2.2.2.2.2.1 hS C.2.2.2.2.2.2.2.2.2.2) (fun H1 locs1 hP1 hS1 => ?_)
  rw [toList_mV]
  exact h p e s m args below meth c D cI cL ad A C H1 locs1 ls Qc hP1 hS1 hll hq
theorem AR.callVN (hd : decode cc pc = .ok (.invokevirtual idx, 3)) (hcal : CalV y b2 nL2 ret2) (hl : Cond.methodLinkNest own idx y host ∈ tables_1) (hM : MA l y (wsU y b2 nL2 ret2) rm S (.ref b :: As) σ (v, σ1))
    (hcl : y.cls = Cn ∧ y.cls ≠ "java/lang/invoke/MethodHandle" ∧ y.cls ≠ "java/lang/invoke/VarHandle" ∧ (parseMethodDescriptor y.desc).map (fun d => d.parameters.length) = some As.length)
    (hR : rm.frames + 1 ≤ R.frames ∧ 8 + (nL2 + 11) + rm.locals ≤ R.locals) (hz : rm.cells = 0 ∧ rm.slots = 0) (hb : S[b]? = some (ci + 2, n, ds)) (hc : vwCl[ci]? = some (Cn, T, N)) (hst : stk = As.reverse ++ .ref b :: st) (hcat : (st.map fun v => v.category).sum ≤ 8)
    (h : AR l own cc nL ret (wsU y0 b0 n0 r0) R S (pc + 3) L (v.toList ++ st) σ1 X) : AR l own cc nL ret (wsU y0 b0 n0 r0) R S pc L stk σ X := by
  intro p e s m args below meth c D cI cL ad A C H locs ls Qc hP hS hll hq
  subst hst
  obtain ⟨hCn, hcl⟩ := hcl
  subst hCn
  have hts := C.2.2.2.2.2.2.1
  refine ar_cont (va_runVN (As := As.map (mV ad)) (rest := st.map (mV ad)) (g := F0 m pc ls ((As.reverse ++ .ref b :: st).map (mV ad))) ⟨C.1, C.2.1, C.2.2.1, C.2.2.2.2.1, hts⟩ (hM D cI cL ad H.size) ⟨va_cnB As.length hts (wsU_good hcal.1) rfl hz.1 hz.2 (C.2.2.2.2.2.2.2.1 _ hl rfl) (hts _ (wsU_in hcal.2.2.2)) hcl hR, hts _ (wsU_in hcal.2.1), hts _ (wsU_in hcal.2.2.1)⟩
    ⟨ma_blind, va_recv C.2.2.2.2.2.2.2.2.1 hP hc (wd_at hb), fun U hU hW => ⟨rfl, by rw [hU], by rw [hU]; exact hP, va_K.moved hW.alike C.2.2.2.2.2.2.2.2.1, C.2.2.2.2.2.2.2.2.2.1.weaken (fun _ _ _ _ => trivial), NW.warm hW C.2.2.2.2.2.2.2.1⟩⟩ rfl (by simp) hll.1 (by simp [mV]) (lv_room (by rw [cat_mV]; exact hcat)) hd ⟨Nat.zero_le _, Nat.zero_le _⟩)
    hS (fun q _ z => wd_lt C.2.2.2.2.2.2.2.2.2.1 hS C.2.2.2.2.2.2.2.2.2.2 q z) (wd_lt C.2.2.2.2.2.2.2.2.2.1 hS C.2.2.2.2.2.2.2.2.2.2) (fun H1 locs1 hP1 hS1 => ?_)
  rw [toList_mV]
  exact h p e s m args below meth c D cI cL ad A C H1 locs1 ls Qc hP1 hS1 hll hq
theorem AR.callS (hd : decode cc pc = .ok (.invokestatic idx, 3)) (hcal : CalS y b2 nL2 ret2) (hl : Cond.methodLink own idx y ∈ wsG) (hM : MA l y (wsU y b2 nL2 ret2) rm S As σ (v, σ1))
    (hcl : y.cls = own ∧ y.cls ≠ "java/lang/invoke/MethodHandle" ∧ y.cls ≠ "java/lang/invoke/VarHandle" ∧ (parseMethodDescriptor y.desc).map (fun d => d.parameters.length) = some As.length)
    (hR : rm.frames + 1 ≤ R.frames ∧ 8 + (nL2 + 11) + rm.locals ≤ R.locals) (hz : rm.cells = 0 ∧ rm.slots = 0) (hst : stk = As.reverse ++ st) (hcat : (st.map fun v => v.category).sum ≤ 8)
    (h : AR l own cc nL ret (wsU y0 b0 n0 r0) R S (pc + 3) L (v.toList ++ st) σ1 X) : AR l own cc nL ret (wsU y0 b0 n0 r0) R S pc L stk σ X := by
  intro p e s m args below meth c D cI cL ad A C H locs ls Qc hP hS hll hq
  subst hst
  have hts := C.2.2.2.2.2.2.1
  refine ar_cont (va_runS (As := As.map (mV ad)) (rest := st.map (mV ad)) (g := F0 m pc ls ((As.reverse ++ st).map (mV ad))) ⟨C.1, C.2.1, C.2.2.1, C.2.2.2.2.1, hts⟩ (hM D cI cL ad H.size) (cwS As.length hts (calS_good hcal hl hcl.1) rfl hz.1 hz.2 hcl hR)
    ⟨ma_blind, fun U hU hW => ⟨rfl, by rw [hU], by rw [hU]; exact hP, va_K.moved hW.alike C.2.2.2.2.2.2.2.2.1, C.2.2.2.2.2.2.2.2.2.1.weaken (fun _ _ _ _ => trivial), NW.warm hW C.2.2.2.2.2.2.2.1⟩⟩ rfl (by simp) hll.1 (by simp [mV]) (lv_room (by rw [cat_mV]; exact hcat)) hd ⟨Nat.zero_le _, Nat.zero_le _⟩)
    hS (fun q _ z => wd_lt C.2.2.2.2.2.2.2.2.2.1 hS C.2.2.2.2.2.2.2.2.2.2 q z) (wd_lt C.2.2.2.2.2.2.2.2.2.1 hS C.2.2.2.2.2.2.2.2.2.2) (fun H1 locs1 hP1 hS1 => ?_)
  rw [toList_mV]
  exact h p e s m args below meth c D cI cL ad A C H1 locs1 ls Qc hP1 hS1 hll hq
theorem AR.callSN (hd : decode cc pc = .ok (.invokestatic idx, 3)) (hcal : CalS y b2 nL2 ret2) (hl : Cond.methodLinkNest own idx y host ∈ tables_1) (hM : MA l y (wsU y b2 nL2 ret2) rm S As σ (v, σ1))
    (hcl : y.cls ≠ "java/lang/invoke/MethodHandle" ∧ y.cls ≠ "java/lang/invoke/VarHandle" ∧ (parseMethodDescriptor y.desc).map (fun d => d.parameters.length) = some As.length)
    (hR : rm.frames + 1 ≤ R.frames ∧ 8 + (nL2 + 11) + rm.locals ≤ R.locals) (hz : rm.cells = 0 ∧ rm.slots = 0) (hst : stk = As.reverse ++ st) (hcat : (st.map fun v => v.category).sum ≤ 8)
    (h : AR l own cc nL ret (wsU y0 b0 n0 r0) R S (pc + 3) L (v.toList ++ st) σ1 X) : AR l own cc nL ret (wsU y0 b0 n0 r0) R S pc L stk σ X := by
  intro p e s m args below meth c D cI cL ad A C H locs ls Qc hP hS hll hq
  subst hst
  have hts := C.2.2.2.2.2.2.1
  refine ar_cont (va_runSN (As := As.map (mV ad)) (rest := st.map (mV ad)) (g := F0 m pc ls ((As.reverse ++ st).map (mV ad))) ⟨C.1, C.2.1, C.2.2.1, C.2.2.2.2.1, hts⟩ (hM D cI cL ad H.size) ⟨va_cnB As.length hts (wsU_good hcal.1) rfl hz.1 hz.2 (C.2.2.2.2.2.2.2.1 _ hl rfl) (hts _ (wsU_in hcal.2.2)) hcl hR, hts _ (wsU_in hcal.2.1), trivial⟩
    ⟨ma_blind, fun U hU hW => ⟨rfl, by rw [hU], by rw [hU]; exact hP, va_K.moved hW.alike C.2.2.2.2.2.2.2.2.1, C.2.2.2.2.2.2.2.2.2.1.weaken (fun _ _ _ _ => trivial), NW.warm hW C.2.2.2.2.2.2.2.1⟩⟩ rfl (by simp) hll.1 (by simp [mV]) (lv_room (by rw [cat_mV]; exact hcat)) hd ⟨Nat.zero_le _, Nat.zero_le _⟩)
    hS (fun q _ z => wd_lt C.2.2.2.2.2.2.2.2.2.1 hS C.2.2.2.2.2.2.2.2.2.2 q z) (wd_lt C.2.2.2.2.2.2.2.2.2.1 hS C.2.2.2.2.2.2.2.2.2.2) (fun H1 locs1 hP1 hS1 => ?_)
  rw [toList_mV]
  exact h p e s m args below meth c D cI cL ad A C H1 locs1 ls Qc hP1 hS1 hll hq
end ARcall
