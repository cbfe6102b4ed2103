/-! CALLS OF THE LAW: contracts of its own methods (LM), and the calls that it makes -/
def LMpre (D : va_G) (cI cL : ClassId) (ad : Nat → Nat) (σ : HS) (as ro : LA) (sz : Nat) (U : State) : Prop :=
  U.heap.size = sz ∧ va_P D vwCl (lw2 cI cL ad σ as) U.heap ∧ (∀ x ∈ ro, va_X x.1 x.2.1 x.2.2 U U.heap ∧ x.1 < U.heap.size) ∧ va_K D vwCl [(cI, .int), (cL, .long)] U ∧ va_D (fun _ => True) (lw2 cI cL ad zHS as) ∧ (∀ x ∈ ro, ¬ va_A (lw2 cI cL ad zHS as) sz x.1) ∧ NW U
def LM (l : Launch) (y : MethodName) (ws : List Cond) (rm : Room) (mg : Nat) (As : List Value) (ad : Nat → Nat) (σ : HS) (as ro : LA) (FIN : Option Value → HS → LA → Prop) : Prop :=
  ∀ (D : va_G) (cI cL : ClassId) (sz : Nat), Met l y ws rm (va_Pc As (LMpre D cI cL ad σ as ro sz))
    (fun _ st oc t => (∃ (v : Option Value) (σ1 : HS) (as1 : LA), oc = .returned v ∧ FIN v σ1 as1 ∧ va_P D vwCl (lw2 cI cL ad σ1 as1) t.heap ∧ va_D (va_A (lw2 cI cL ad zHS as) sz) (lw2 cI cL ad zHS as1)) ∧ va_F (va_A (lw2 cI cL ad zHS as) sz) st t) mg (80 * mg) (va_A (lw2 cI cL ad zHS as) sz)
theorem lm_blind {As : List Value} {σ : HS} {as ro : LA} {D : va_G} {cI cL : ClassId} {ad : Nat → Nat} {sz : Nat} : FrameBlind (va_Pc As (LMpre D cI cL ad σ as ro sz)) := by
  intro a U g mk q
  obtain ⟨q0, q1, qP, qR, qK, qD, qA, qN⟩ := q
  exact ⟨q0, q1, qP, fun x hx => ⟨va_X.moved (u := U) (U := U.calling g mk a) (Vm.Alike.refl U.vm) (qR x hx).1, (qR x hx).2⟩, va_K.moved (u := U) (U := U.calling g mk a) (Vm.Alike.refl U.vm) qK, qD, qA, NW.same (u := U) (U := U.calling g mk a) rfl qN⟩
/-- a method of the law is at its end -/
def RetE (cc : ByteArray) (ret : Option FieldType) (mg : Nat) (FIN : Option Value → HS → LA → Prop) : Nat → List Value → HS → LA → Nat → Prop := fun pc st σ as g =>
  g ≤ mg ∧ ((∃ x : Int32, st = [.int x] ∧ decode cc pc = .ok (.ireturn, 1) ∧ (ret = some .int ∨ (ret = some .boolean ∧ (x = 0 ∨ x = 1))) ∧ FIN (some (.int x)) σ as) ∨
    (∃ q : Nat, st = [.ref q] ∧ decode cc pc = .ok (.areturn, 1) ∧ ret = some (.array .int) ∧ FIN (some (.ref q)) σ as))
theorem LM.of {l : Launch} {y : MethodName} {cc : ByteArray} {nL : Nat} {ret : Option FieldType} {rm : Room} {mg : Nat} {As : List Value} {ad : Nat → Nat} {σ : HS} {as ro : LA} {FIN : Option Value → HS → LA → Prop} {L : List (Nat × Value)}
    (hy : plainName y.cls = true) (ho : y.cls = RL) (hn : (lg_sl As).length ≤ nL) (hL : lv_args 0 As = L)
    (h : LR l cc nL ret (wsU y cc nL ret) rm 0 0 ad ro (RetE cc ret mg FIN) 0 L [] σ as 0) : LM l y (wsU y cc nL ret) rm mg As ad σ as ro FIN := by
  intro D cI cL sz
  refine Met.ofW (cc := cc) (maxL := nL) (ret := ret) hy rfl ?_
  intro p e s m args below meth c s₁ B hml hv
  obtain ⟨rfl, hsz, hP, hR, hK, hD0, hA, hN⟩ := hv
  have hts := atoms_spec (ws := wsU y cc nL ret) B.pre
  have hown : s.vm.findClass y.cls = some m.cls := findClass_of_methodNamed B.named
  rw [ho] at hown
  subst hsz
  have hl := lv_entry As (n := nL) hn
  rw [hL] at hl
  rw [lg_entry_eq]
  refine h p e s m _ below meth c D cI cL (va_A (lw2 cI cL ad zHS as) s.heap.size) _ ⟨B.exec, B.bytes, hml, B.returns, hown, B.notSynchronized, hts, fun w hw => wsU_in hw, hN, hK, hR, hA, fun q hq => Or.inr hq⟩ ?_ s.heap [] _ hP hD0.self va_S.rf hl ⟨Nat.zero_le _, Nat.zero_le _⟩
  intro pc ls st σ1 as1 g H locs hE hP1 hD1 hS1 _
  obtain ⟨hg, hE⟩ := hE
  refine W.widen (k := mg) (n := 80 * mg) (by omega) (by omega) ?_
  rcases hE with ⟨x, rfl, hd, hr, hF⟩ | ⟨q, rfl, hd, hr, hF⟩
  · rcases hr with hr | ⟨hr, hx⟩
    · exact W.iret B.exec B.bytes (B.returns.trans hr) (fun t ht hW => ⟨⟨_, σ1, as1, rfl, hF, by rw [ht]; exact hP1, hD1⟩, hS1.F ht⟩) hS1.2.2 hd B.notSynchronized
    · exact W.zret B.exec B.bytes (B.returns.trans hr) (by rcases hx with rfl | rfl <;> rfl) (fun t ht hW => ⟨⟨_, σ1, as1, rfl, hF, by rw [ht]; exact hP1, hD1⟩, hS1.F ht⟩) hS1.2.2 hd B.notSynchronized
  · exact W.aret B.exec B.bytes (B.returns.trans hr) (Or.inr ⟨_, rfl⟩) (Or.inr ⟨q, rfl⟩) (fun t ht hW => ⟨⟨_, σ1, as1, rfl, hF, by rw [ht]; exact hP1, hD1⟩, hS1.F ht⟩) hS1.2.2 hd B.notSynchronized
section LRcalls
variable {p : Program} {l : Launch} {e : Env} {R : Room} {s : State} {m : MethodId} {args : Array Value} {below : List Frame} {meth : Method} {c : Code} {H : Heap} {locs : List Loc} {Q : State → Prop} {cells slots mc ms : Nat}
variable {pc : Nat} {ls : Array Slot} {rest st0 : List Value} {A0 A1 : Nat → Prop} {H0 : Heap} {free : Addr → Prop} {D : va_G} {PO : Option Value → State → Prop}
theorem lr_cont (hr : va_Run p l e R s m args below meth c H locs cells slots mc ms (F0 m pc ls st0) rest (fun st oc t => (∃ v, oc = .returned v ∧ PO v t) ∧ va_F A1 st t) free) (hPO : ∀ v t t', t.heap = t'.heap → PO v t → PO v t') (hS : va_S A0 H0 H locs) (hA : ∀ q, q < H.size → A1 q → A0 q) (hf : ∀ q, free q → A0 q)
    (kk : ∀ (v : Option Value) (t : State) (H1 : Heap) (locs1 : List Loc), t.heap = H1 → PO v t → (∀ q : Nat, q < H.size → ¬ A1 q → H1[q]? = H[q]?) → va_S A0 H0 H1 locs1 → W p l e R s m args below meth c H1 locs1 (cells + mc) (slots + ms) Q (F0 m (pc + 3) ls (v.toList ++ rest))) : W p l e R s m args below meth c H locs cells slots Q (F0 m pc ls st0) := by
  intro T hT X
  obtain ⟨v2, st₀, t, T', L, h0, X', hL, e1, e2, ⟨⟨v, hv, hb⟩, hz, hk⟩, st⟩ := hr T hT X
  cases hv
  rw [h0] at hz hk
  obtain ⟨t2, a1, b1⟩ := kk v2 T' T'.heap (locs ++ L) rfl (hPO v2 t T' e1.symm hb) (fun q h1 h2 => by rw [e1]; exact hk q h1 h2)
    ⟨Nat.le_trans hS.1 (by rw [e1]; exact hz), fun q h1 h2 => by rw [e1, hk q (Nat.lt_of_lt_of_le h1 hS.1) (fun z => h2 (hA q (Nat.lt_of_lt_of_le h1 hS.1) z))]; exact hS.2.1 q h1 h2, fun q hq => by
      rcases List.mem_append.mp hq with h | h
      · exact hS.2.2 q h
      · exact hf _ (hL q h)⟩ T' rfl X'
  exact ⟨t2, st t2 a1, b1⟩
theorem lr_runS {y : MethodName} {bytes cc : ByteArray} {maxL nL n index : Nat} {ret : Option FieldType} {ws : List Cond} {rm : Room} {Pc : Array Value → State → Prop} {Qc : Array Value → State → Outcome → State → Prop} {Ts : List Cond} {own : String} {As : List Value} {g : JFrame} (S : CallFix p m c cc nL s args Ts own) (hM : Met l y ws rm Pc Qc mc ms free) (hrc : rm.cells = mc) (hrs : rm.slots = ms) (hR : rm.frames + 1 ≤ R.frames ∧ 12 + (maxL + 11) + rm.locals ≤ R.locals)
    (cw : CallB { R with locals := 8 + (maxL + 11) + rm.locals } s args own index y bytes maxL ret ws rm mc ms n ∧ (Cond.static y).before args s = true) (hp : PreS s H Pc As)
    (hg : g.method = m) (hn : As.length = n) (hsize : g.locals.size = nL) (hstack : g.stack = As.reverse ++ rest) (hW : 2 * g.monitorRoom + (rest.map fun v => v.category).sum ≤ 12) (hdg : decode cc g.pc = .ok (.invokestatic index, 3)) (hf : cells + mc ≤ R.cells ∧ slots + ms ≤ R.slots) :
    va_Run p l e R s m args below meth c H locs cells slots mc ms g rest (Qc As.toArray) (free) := by
  obtain ⟨⟨-, -, -, -, hws, hcw, hcode, hini, hy, hlen, hl⟩, hstt⟩ := cw
  have hK : Back l R p e below s args y 3 12 (PreOf R mc ms Pc) (PostOf Qc mc ms free) := back_of (bytes := bytes) (maxL := maxL) (ret := ret) hM hp.1 hrc hrs hR.1 hR.2 hws hcw (fun a' U hW => word_at hW (Or.inl (by first | rfl | simp [Cond.onTables, Cond.keeps, Cond.steady])) hini)
  obtain ⟨hx, hb, hml, ho, -⟩ := S
  intro T hT X
  obtain ⟨v, vm₁, ⟨U', l2, c2, s2⟩, hW₁, X', ⟨g', mk, t, L, e1, e2, hq, h1, hL, h2, h3⟩, st⟩ := callS X hx (bytes := bytes) (maxL := maxL) (ret := ret) ho hl hstt hini hcode hy hK hg (hsize.trans hml.symm) (argsL := As) (rest := rest) (fun sig h => hn.trans (hlen sig h)) hstack hW (by rw [hb]; exact hdg)
    (fun vm₁ hW₁ => ⟨hf.1, hf.2, hp.2 (T.setVm vm₁) hT hW₁⟩)
  dsimp only [Pt.U, Pt.locs, Pt.cells, Pt.slots] at X' e1 e2 h1 h2 h3 st
  subst h1; subst h2; subst h3
  exact ⟨v, (T.setVm vm₁).calling g' mk As.toArray, t, U', L, hT, X', hL, e1, e2, hq, st⟩
end LRcalls
section LRcall
variable {l : Launch} {cc : ByteArray} {nL : Nat} {ret : Option FieldType} {Ts : List Cond} {R : Room} {kb nb : Nat} {ad : Nat → Nat} {ro : LA} {E : Nat → List Value → HS → LA → Nat → Prop} {pc : Nat} {L : List (Nat × Value)} {st stk : List Value} {σ σ1 : HS} {as : LA} {g : Nat}
variable {y : MethodName} {b2 : ByteArray} {nL2 : Nat} {ret2 : Option FieldType} {idx : Nat} {rm : Room} {As : List Value} {v : Option Value}
theorem lcal_good {w0 : List Cond} (h0 : ∀ w ∈ w0, w ∈ wsG) (hT : ∀ w ∈ wsG, w ∈ Ts) : GoodIn Ts w0 := fun w hw => ⟨hT w (h0 w hw), wsL_ok (h0 w hw)⟩
theorem wsU_sub (h : Cond.code y b2 nL2 ret2 ∈ wsG) : ∀ w ∈ wsU y b2 nL2 ret2, w ∈ wsG := by
  intro w hw
  rcases List.mem_cons.mp hw with rfl | h2
  · exact h
  · exact h2
theorem lcal_V (h : CalV y b2 nL2 ret2) (hl : Cond.methodLink RL idx y ∈ wsG) : ∀ w ∈ wsV RL idx y.cls y (wsU y b2 nL2 ret2), w ∈ wsG := by
  intro w hw
  rcases List.mem_append.mp hw with hw | hw
  · simp only [List.mem_cons, List.not_mem_nil, or_false] at hw
    rcases hw with rfl | rfl | rfl | rfl
    · exact hl
    · exact h.2.1
    · exact h.2.2.1
    · exact h.2.2.2
  · exact wsU_sub h.1 w hw
theorem lcal_S (h : CalS y b2 nL2 ret2) (hl : Cond.methodLink RL idx y ∈ wsG) (ho : y.cls = RL) : ∀ w ∈ wsS RL idx y (wsU y b2 nL2 ret2), w ∈ wsG := by
  intro w hw
  rcases List.mem_append.mp hw with hw | hw
  · simp only [List.mem_cons, List.not_mem_nil, or_false] at hw
    rcases hw with rfl | rfl | rfl
    · exact hl
    · exact h.2.1
    · rw [← ho]; exact h.2.2
  · exact wsU_sub h.1 w hw
theorem lw2_AC {A : Nat → Prop} {cI cL : ClassId} {H H0 : Heap} {locs : List Loc} (hD : va_D A (lw2 cI cL ad zHS as)) (hS : va_S A H0 H locs) (hA : ∀ q, H0.size ≤ q → A q) : ∀ q, va_A (wd SC cI cL ad zHS) H.size q → A q := by
  intro q h
  rcases h with ⟨k, e, hk⟩ | h
  · exact hD.2 k (q, e) (by rw [List.getElem?_append_left (List.getElem?_eq_some_iff.mp hk).1]; exact hk)
  · exact hA q (Nat.le_trans hS.1 h)
theorem lw2_notA {A : Nat → Prop} {cI cL : ClassId} {H : Heap} {D : va_G} (hD : va_D A (lw2 cI cL ad zHS as)) (hP : va_P D vwCl (lw2 cI cL ad σ as) H) {j : Nat} {x : Nat × Nat × (Nat → Int32)} (hx : as[j]? = some x) : x.1 < H.size ∧ ¬ va_A (wd SC cI cL ad zHS) H.size x.1 := by
  have h1 : x.1 < H.size := (hP _ _ (lw2_at hx)).lt
  refine ⟨h1, ?_⟩
  rintro (⟨k, e, hk⟩ | h)
  · have hl := (List.getElem?_eq_some_iff.mp hk).1
    have h2 := hD.1 k (47 + j) (x.1, e) (waE cI x) (by rw [List.getElem?_append_left hl]; exact hk) (lw2_at hx) rfl
    rw [wdSC_len] at hl
    omega
  · omega
theorem cblind3 {As : List Value} {S : Shp} {σ : HS} {D : va_G} {cI cL : ClassId} {ad : Nat → Nat} {sz : Nat} : FrameBlind (va_Pc As (fun U => U.heap.size = sz ∧ va_P D vwCl (wd S cI cL ad σ) U.heap ∧ va_K D vwCl [(cI, .int), (cL, .long)] U ∧ va_D (fun _ => True) (wd S cI cL ad zHS) ∧ NW U)) := by
  intro a U g mk q
  obtain ⟨q0, q1, qP, qK, qD, qN⟩ := q
  exact ⟨q0, q1, qP, va_K.moved (u := U) (U := U.calling g mk a) (Vm.Alike.refl U.vm) qK, qD, NW.same (u := U) (U := U.calling g mk a) rfl qN⟩
theorem LR.callV {n N : Nat} {ds : List Nat} {T : u_T} {Cn : String} {ci : Nat} (hd : decode cc pc = .ok (.invokevirtual idx, 3)) (hcal : CalV y b2 nL2 ret2) (hl : Cond.methodLink RL idx y ∈ wsG) (hM : MA l y (wsU y b2 nL2 ret2) rm SC (.ref 0 :: As) σ (v, σ1)) (hAs : As.map (mV ad) = As) (hv : v.map (mV ad) = v)
    (hcl : y.cls = Cn ∧ y.cls ≠ "java/lang/invoke/MethodHandle" ∧ y.cls ≠ "java/lang/invoke/VarHandle" ∧ (parseMethodDescriptor y.desc).map (fun d => d.parameters.length) = some As.length)
    (hR : rm.frames + 1 ≤ R.frames ∧ 8 + (nL2 + 11) + rm.locals ≤ R.locals) (hz : rm.cells = 0 ∧ rm.slots = 0) (hb : SC[0]? = some (ci + 2, n, ds)) (hc : vwCl[ci]? = some (Cn, T, N)) (hst : stk = As.reverse ++ .ref (ad 0) :: st) (hcat : (st.map fun v => v.category).sum ≤ 8)
    (h : LR l cc nL ret Ts R kb nb ad ro E (pc + 3) L (v.toList ++ st) σ1 as g) : LR l cc nL ret Ts R kb nb ad ro E pc L stk σ as g := by
  intro p e s m args below meth c D cI cL A Q C hE H locs ls hP hD hS hll hG
  subst hst
  obtain ⟨hCn, hcl⟩ := hcl
  subst hCn
  have hM2 := hM D cI cL ad H.size
  rw [List.map_cons, hAs, show mV ad (.ref 0) = .ref (ad 0) from rfl, hv] at hM2
  have hPC : va_P D vwCl (wd SC cI cL ad σ) H := fun k q hk => hP k q (by rw [List.getElem?_append_left (List.getElem?_eq_some_iff.mp hk).1]; exact hk)
  have hDC : va_D (fun _ => True) (wd SC cI cL ad zHS) := ⟨fun i j x y hi hj hxy => hD.1 i j x y (by rw [List.getElem?_append_left (List.getElem?_eq_some_iff.mp hi).1]; exact hi) (by rw [List.getElem?_append_left (List.getElem?_eq_some_iff.mp hj).1]; exact hj) hxy, fun _ _ _ => trivial⟩
  have hts := C.2.2.2.2.2.2.1
  have hK := C.2.2.2.2.2.2.2.2.2.1
  have hN := C.2.2.2.2.2.2.2.2.1
  have hA := C.2.2.2.2.2.2.2.2.2.2.2.2
  refine lr_cont (mc := 0) (ms := 0) (PO := fun v2 t => v2 = v ∧ va_P D vwCl (wd SC cI cL ad σ1) t.heap) (A1 := va_A (wd SC cI cL ad zHS) H.size) (free := va_A (wd SC cI cL ad zHS) H.size) (rest := st) ?_ (fun v2 t t' et hq => ⟨hq.1, et ▸ hq.2⟩)
    hS (fun q _ z => lw2_AC hD hS hA q z) (lw2_AC hD hS hA) (fun v2 t H1 locs1 ht hq hk hS1 => ?_)
  · have := va_runV (As := As) (rest := st) (g := F0 m pc ls (As.reverse ++ .ref (ad 0) :: st)) (p := p) (l := l) (e := e) (R := R) (s := s) (below := below) (meth := meth) (locs := locs) (cells := kb + g) (slots := nb + 80 * g) ⟨C.1, C.2.1, C.2.2.1, C.2.2.2.2.1, hts⟩ hM2 (cwV As.length hts (lcal_good (lcal_V hcal hl) C.2.2.2.2.2.2.2.1) rfl hz.1 hz.2 ⟨rfl, hcl⟩ hR)
      ⟨cblind3, va_recv hK hPC hc (wd_at hb), fun U hU hW => ⟨rfl, by rw [hU], by rw [hU]; exact hPC, va_K.moved hW.alike hK, hDC, NW.warm hW hN⟩⟩ rfl rfl hll.1 rfl (lv_room hcat) hd ⟨by omega, by omega⟩
    intro T hT X
    obtain ⟨v2, st₀, t, T', L', h0, X', hL, e1, e2, ⟨⟨hv2, hb2⟩, hF⟩, st2⟩ := this T hT X
    exact ⟨v2, st₀, t, T', L', h0, X', hL, e1, e2, ⟨⟨v2, rfl, by cases hv2; exact ⟨rfl, hb2⟩⟩, hF⟩, st2⟩
  · obtain ⟨rfl, hP1⟩ := hq
    rw [ht] at hP1
    refine h p e s m args below meth c D cI cL A Q C hE H1 locs1 ls ?_ hD hS1 hll hG
    refine hP1.app (fun k q hk2 => ?_)
    rw [wa_get] at hk2
    cases hx : as[k]? with
    | none => rw [hx] at hk2; cases hk2
    | some x =>
      rw [hx] at hk2; cases hk2
      obtain ⟨h1, h2⟩ := lw2_notA hD hP hx
      exact (hP _ _ (lw2_at hx)).kept (hk x.1 h1 h2)
theorem LR.callS {as2 asR ro2 : LA} {mg : Nat} {FIN : Option Value → HS → LA → Prop} (isC isR : List Nat) (hd : decode cc pc = .ok (.invokestatic idx, 3)) (hcal : CalS y b2 nL2 ret2) (hl : Cond.methodLink RL idx y ∈ wsG) (hM : LM l y (wsU y b2 nL2 ret2) rm mg As ad σ as2 ro2 FIN)
    (hcl : y.cls = RL ∧ y.cls ≠ "java/lang/invoke/MethodHandle" ∧ y.cls ≠ "java/lang/invoke/VarHandle" ∧ (parseMethodDescriptor y.desc).map (fun d => d.parameters.length) = some As.length)
    (hR : rm.frames + 1 ≤ R.frames ∧ 12 + (nL2 + 11) + rm.locals ≤ R.locals) (hz : rm.cells = mg ∧ rm.slots = 80 * mg) (hg : kb + (g + mg) ≤ R.cells ∧ nb + 80 * (g + mg) ≤ R.slots)
    (hC : isC.map (fun i => as[i]?) = as2.map some) (hRr : isR.map (fun i => as[i]?) = asR.map some) (hnC : va_nd isC = true) (hnR : va_nd isR = true) (hdis : ∀ i ∈ isR, i ∉ isC) (hro0 : (∃ is : List Nat, is.map (fun i => ro[i]?) = ro2.map some) ∨ ∃ is : List Nat, is.map (fun i => as[i]?) = ro2.map some ∧ ∀ i ∈ is, i ∉ isC)
    (hst : stk = As.reverse ++ st) (hcat : (st.map fun v => v.category).sum ≤ 12)
    (h : ∀ (v : Option Value) (σ1 : HS) (as1 : LA), FIN v σ1 as1 → LR l cc nL ret Ts R kb nb ad ro E (pc + 3) L (v.toList ++ st) σ1 (asR ++ as1) (g + mg)) : LR l cc nL ret Ts R kb nb ad ro E pc L stk σ as g := by
  intro p e s m args below meth c D cI cL A Q C hE H locs ls hP hD hS hll hG
  subst hst
  have hro : ∀ x ∈ ro2, x ∈ ro ∨ ∃ i, as[i]? = some x ∧ i ∉ isC := by
    intro x hx
    obtain ⟨k, hk⟩ := List.getElem?_of_mem hx
    rcases hro0 with ⟨is, h0⟩ | ⟨is, h0, h1⟩
    · obtain ⟨i, -, h2⟩ := map_idx h0 hk
      exact Or.inl (List.mem_of_getElem? h2)
    · obtain ⟨i, h3, h2⟩ := map_idx h0 hk
      exact Or.inr ⟨i, h2, h1 i (List.mem_of_getElem? h3)⟩
  have hts := C.2.2.2.2.2.2.1
  have hK := C.2.2.2.2.2.2.2.2.2.1
  have hN := C.2.2.2.2.2.2.2.2.1
  have hA := C.2.2.2.2.2.2.2.2.2.2.2.2
  have hroP : ∀ x ∈ ro, va_X x.1 x.2.1 x.2.2 s H ∧ x.1 < H.size := fun x hx => by
    have h1 := C.2.2.2.2.2.2.2.2.2.2.1 x hx
    exact ⟨h1.1.kept (hS.2.1 x.1 h1.2 (C.2.2.2.2.2.2.2.2.2.2.2.1 x hx)), Nat.lt_of_lt_of_le h1.2 hS.1⟩
  have hPC := lw2_subP hC hP
  have hDC := lw2_subD hC hnC hD
  have hF : ∀ q, va_A (lw2 cI cL ad zHS as2) H.size q → A q := by
    rintro q (⟨k, e, hk⟩ | h)
    · exact hDC.2 k (q, e) hk
    · exact hA q (Nat.le_trans hS.1 h)
  have hnot : ∀ {i : Nat} {x : Nat × Nat × (Nat → Int32)}, as[i]? = some x → i ∉ isC → x.1 < H.size ∧ ¬ va_A (lw2 cI cL ad zHS as2) H.size x.1 := by
    intro i x hx hi
    have h1 : x.1 < H.size := (hP _ _ (lw2_at hx)).lt
    refine ⟨h1, ?_⟩
    rintro (⟨k, e, hk⟩ | h)
    · rcases lw2_of hk with ⟨hl2, h2⟩ | ⟨hl2, y2, h2, e2⟩
      · have := hD.1 k (47 + i) (x.1, e) (waE cI x) (by rw [List.getElem?_append_left (List.getElem?_eq_some_iff.mp h2).1]; exact h2) (lw2_at hx) rfl
        omega
      · obtain ⟨j, h3, h4⟩ := map_idx hC h2
        have := hD.1 (47 + j) (47 + i) (waE cI y2) (waE cI x) (lw2_at h4) (lw2_at hx) (by rw [← e2]; rfl)
        have e3 : j = i := by omega
        subst e3
        exact hi (List.mem_of_getElem? h3)
    · omega
  have hro2 : ∀ x ∈ ro2, (va_X x.1 x.2.1 x.2.2 s H ∧ x.1 < H.size) ∧ ¬ va_A (lw2 cI cL ad zHS as2) H.size x.1 := by
    intro x hx
    rcases hro x hx with h1 | ⟨i, h1, h2⟩
    · exact ⟨hroP x h1, fun z => C.2.2.2.2.2.2.2.2.2.2.2.1 x h1 (hF _ z)⟩
    · exact ⟨⟨waX (U := s) hK (hP _ _ (lw2_at h1)), (hnot h1 h2).1⟩, (hnot h1 h2).2⟩
  refine lr_cont (mc := mg) (ms := 80 * mg) (PO := fun v2 t => ∃ (σ1 : HS) (as1 : LA), FIN v2 σ1 as1 ∧ va_P D vwCl (lw2 cI cL ad σ1 as1) t.heap ∧ va_D (va_A (lw2 cI cL ad zHS as2) H.size) (lw2 cI cL ad zHS as1)) (A1 := va_A (lw2 cI cL ad zHS as2) H.size) (free := va_A (lw2 cI cL ad zHS as2) H.size) (rest := st) ?_ (fun v2 t t' et hq => by obtain ⟨a, b, c1, c2, c3⟩ := hq; exact ⟨a, b, c1, et ▸ c2, c3⟩)
    hS (fun q _ z => hF q z) hF (fun v2 t H1 locs1 ht hq hk hS1 => ?_)
  · have := lr_runS (As := As) (rest := st) (g := F0 m pc ls (As.reverse ++ st)) (p := p) (l := l) (e := e) (R := R) (s := s) (below := below) (meth := meth) (locs := locs) (cells := kb + g) (slots := nb + 80 * g) ⟨C.1, C.2.1, C.2.2.1, C.2.2.2.2.1, hts⟩ (hM D cI cL H.size) hz.1 hz.2 hR (cwS As.length hts (lcal_good (lcal_S hcal hl hcl.1) C.2.2.2.2.2.2.2.1) rfl hz.1 hz.2 hcl ⟨hR.1, Nat.le_refl _⟩)
      ⟨lm_blind, fun U hU hW => ⟨rfl, by rw [hU], by rw [hU]; exact hPC, fun x hx => by rw [hU]; exact ⟨va_X.moved hW.alike (hro2 x hx).1.1, (hro2 x hx).1.2⟩, va_K.moved hW.alike hK, hDC.weaken (fun _ _ _ _ => trivial), fun x hx => (hro2 x hx).2, NW.warm hW hN⟩⟩ rfl rfl hll.1 rfl (by show 2 * 0 + _ ≤ 12; omega) hd ⟨by omega, by omega⟩
    intro T hT X
    obtain ⟨v2, st₀, t, T', L', h0, X', hL, e1, e2, ⟨⟨v3, σ1, as1, hv2, hb2⟩, hF2⟩, st2⟩ := this T hT X
    exact ⟨v2, st₀, t, T', L', h0, X', hL, e1, e2, ⟨⟨v2, rfl, by cases hv2; exact ⟨σ1, as1, hb2⟩⟩, hF2⟩, st2⟩
  · obtain ⟨σ1, as1, hFIN, hP1, hD1⟩ := hq
    rw [ht] at hP1
    refine W.widen (k := kb + (g + mg)) (n := nb + 80 * (g + mg)) (by omega) (by omega) ?_
    have hxR : ∀ {k : Nat} {x : Nat × Nat × (Nat → Int32)}, asR[k]? = some x → ∃ i, isR[k]? = some i ∧ as[i]? = some x ∧ x.1 < H.size ∧ ¬ va_A (lw2 cI cL ad zHS as2) H.size x.1 := by
      intro k x hx
      obtain ⟨i, h1, h2⟩ := map_idx hRr hx
      exact ⟨i, h1, h2, hnot h2 (hdis i (List.mem_of_getElem? h1))⟩
    have spl : ∀ (τ : HS) {k : Nat} {x : Nat × va_E}, (lw2 cI cL ad τ (asR ++ as1))[k]? = some x → (∃ j, (k < 47 ∧ j = k ∨ 47 + asR.length ≤ k ∧ j + asR.length = k) ∧ (lw2 cI cL ad τ as1)[j]? = some x) ∨ (∃ j y2, k = 47 + j ∧ asR[j]? = some y2 ∧ x = waE cI y2) := by
      intro τ k x hk
      rcases lw2_of hk with ⟨hl2, h2⟩ | ⟨hl2, y2, h2, e2⟩
      · exact Or.inl ⟨k, Or.inl ⟨hl2, rfl⟩, by rw [List.getElem?_append_left (List.getElem?_eq_some_iff.mp h2).1]; exact h2⟩
      · by_cases hj : k - 47 < asR.length
        · rw [List.getElem?_append_left hj] at h2
          exact Or.inr ⟨k - 47, y2, by omega, h2, e2⟩
        · rw [List.getElem?_append_right (by omega)] at h2
          refine Or.inl ⟨k - asR.length, Or.inr ⟨by omega, by omega⟩, ?_⟩
          have := lw2_at (cI := cI) (cL := cL) (ad := ad) (σ := τ) h2
          rw [show 47 + (k - 47 - asR.length) = k - asR.length by omega] at this
          rw [this, e2]
    refine h v2 σ1 as1 hFIN p e s m args below meth c D cI cL A Q C hE H1 locs1 ls (fun k x hk2 => ?_) ⟨fun i j x y2 hi hj hxy => ?_, fun k x hk2 => ?_⟩ hS1 hll hg
    · rcases spl σ1 hk2 with ⟨j, -, h2⟩ | ⟨j, y2, rfl, h2, rfl⟩
      · exact hP1 j x h2
      · obtain ⟨i, -, h3, h4, h5⟩ := hxR h2
        exact (hP _ _ (lw2_at h3)).kept (hk _ h4 h5)
    · rcases spl zHS hi with ⟨i2, a1, a2⟩ | ⟨i2, x2, rfl, a2, rfl⟩ <;> rcases spl zHS hj with ⟨j2, b1, b2'⟩ | ⟨j2, y3, rfl, b2', rfl⟩
      · have := hD1.1 i2 j2 x y2 a2 b2' hxy
        omega
      · obtain ⟨i, -, h3, h4, h5⟩ := hxR b2'
        exact absurd (hD1.2 i2 x a2) (by rw [hxy]; exact h5)
      · obtain ⟨i, -, h3, h4, h5⟩ := hxR a2
        exact absurd (hD1.2 j2 y2 b2') (by rw [← hxy]; exact h5)
      · obtain ⟨i3, c1, h3, h4, h5⟩ := hxR a2
        obtain ⟨j3, d1, h6, h7, h8⟩ := hxR b2'
        have e3 := hD.1 (47 + i3) (47 + j3) _ _ (lw2_at h3) (lw2_at h6) hxy
        have e4 : i3 = j3 := by omega
        subst e4
        have := va_nd_inj isR hnR _ _ _ c1 d1
        omega
    · rcases spl zHS hk2 with ⟨j, -, h2⟩ | ⟨j, y2, rfl, h2, rfl⟩
      · exact hF _ (hD1.2 j x h2)
      · obtain ⟨i, -, h3, h4, h5⟩ := hxR h2
        exact hD.2 _ _ (lw2_at h3)
theorem LR.callS0 {as2 asR ro2 : LA} {mg : Nat} {FIN : Option Value → HS → LA → Prop} (isC isR : List Nat) (hd : decode cc pc = .ok (.invokestatic idx, 3)) (hcal : CalS y b2 nL2 ret2) (hl : Cond.methodLink RL idx y ∈ wsG) (hM : LM l y (wsU y b2 nL2 ret2) rm mg As ad σ as2 ro2 FIN)
    (hcl : y.cls = RL ∧ y.cls ≠ "java/lang/invoke/MethodHandle" ∧ y.cls ≠ "java/lang/invoke/VarHandle" ∧ (parseMethodDescriptor y.desc).map (fun d => d.parameters.length) = some As.length)
    (hR : rm.frames + 1 ≤ R.frames ∧ 12 + (nL2 + 11) + rm.locals ≤ R.locals) (hz : rm.cells = mg ∧ rm.slots = 80 * mg) (h0 : mg = 0)
    (hC : isC.map (fun i => as[i]?) = as2.map some) (hRr : isR.map (fun i => as[i]?) = asR.map some) (hnC : va_nd isC = true) (hnR : va_nd isR = true) (hdis : ∀ i ∈ isR, i ∉ isC) (hro0 : (∃ is : List Nat, is.map (fun i => ro[i]?) = ro2.map some) ∨ ∃ is : List Nat, is.map (fun i => as[i]?) = ro2.map some ∧ ∀ i ∈ is, i ∉ isC)
    (hst : stk = As.reverse ++ st) (hcat : (st.map fun v => v.category).sum ≤ 12)
    (h : ∀ (v : Option Value) (σ1 : HS) (as1 : LA), FIN v σ1 as1 → LR l cc nL ret Ts R kb nb ad ro E (pc + 3) L (v.toList ++ st) σ1 (asR ++ as1) (g + mg)) : LR l cc nL ret Ts R kb nb ad ro E pc L stk σ as g := by
  subst h0
  intro p e s m args below meth c D cI cL A Q C hE H locs ls hP hD hS hll hG
  exact LR.callS isC isR hd hcal hl hM hcl hR hz hG hC hRr hnC hnR hdis hro0 hst hcat h p e s m args below meth c D cI cL A Q C hE H locs ls hP hD hS hll hG
end LRcall
