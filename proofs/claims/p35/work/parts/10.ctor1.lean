set_option maxHeartbeats 4000000 in
set_option maxRecDepth 100000 in
theorem A8_setS {l : Launch} {S : Shp} (k n : Nat) (hk : S[k]? = some (0, n, [])) (x1 : Int32) (x2 : Int32) (σ : HS) (r : HS) (h : f8_set k n x1 x2 σ = some r) : MA l yX8_set (wsU yX8_set cX8_set 3 none) rm8_set S [.ref k, .int x1, .int x2] σ (none, r) := by
  refine MA.of (L := [(0, .ref k), (1, .int x1), (2, .int x2)]) pn_X8_set rfl (fun _ => Nat.le_of_ble_eq_true rfl) (fun _ => rfl) ?_
  unfold f8_set at h
  refine AR.aload_n (pc := 0) (j := 0) dX8_set_0 rfl rfl ?_
  refine AR.ifnull (pc := 1) dX8_set_1 ?_
  refine AR.iload_n (pc := 4) (j := 1) dX8_set_4 rfl rfl ?_
  refine AR.if_lt (pc := 5) (tgt := 18) dX8_set_5 (by decide) (fun c1 => ?_) (fun c1 => ?_)
  · replace h := ite_t c1 h
    exact AR.vret (pc := 18) rfl dX8_set_18 (hrV (Option.some.inj h))
  · replace h := ite_f c1 h
    refine AR.iload_n (pc := 8) (j := 1) dX8_set_8 rfl rfl ?_
    refine AR.aload_n (pc := 9) (j := 0) dX8_set_9 rfl rfl ?_
    refine AR.alen (pc := 10) dX8_set_10 hk ?_
    refine AR.icmp_ge (pc := 11) (tgt := 18) dX8_set_11 (by decide) (fun c2 => ?_) (fun c2 => ?_)
    · replace h := ite_t c2 h
      exact AR.vret (pc := 18) rfl dX8_set_18 (hrV (Option.some.inj h))
    · replace h := ite_f c2 h
      refine AR.aload_n (pc := 14) (j := 0) dX8_set_14 rfl rfl ?_
      refine AR.iload_n (pc := 15) (j := 1) dX8_set_15 rfl rfl ?_
      refine AR.iload_n (pc := 16) (j := 2) dX8_set_16 rfl rfl ?_
      obtain ⟨c3, h⟩ := gn_some h
      refine AR.iastore (pc := 17) dX8_set_17 hk c3 ?_
      exact AR.vret (pc := 18) rfl dX8_set_18 (hrV (Option.some.inj h))
def CPre (D : va_G) (cI cL : ClassId) (pre : va_W) (sz : Nat) : State → Prop := fun U => U.heap.size = sz ∧ va_P D vwCl pre U.heap ∧ va_K D vwCl [(cI, .int), (cL, .long)] U ∧ va_D (fun _ => True) pre ∧ NW U
theorem cblind {As : List Value} {D : va_G} {cI cL : ClassId} {pre : va_W} {sz : Nat} : FrameBlind (va_Pc As (CPre D cI cL pre sz)) := by
  intro a U g mk q
  obtain ⟨q0, q1, qP, qK, qD, qN⟩ := q
  exact ⟨q0, q1, qP, va_K.moved (u := U) (U := U.calling g mk a) (Vm.Alike.refl U.vm) qK, qD, NW.same (u := U) (U := U.calling g mk a) rfl qN⟩
section ctor
variable {p : Program} {l : Launch} {e : Env} {R : Room} {s : State} {m : MethodId} {args : Array Value} {below : List Frame} {meth : Method} {c : Code} {H : Heap} {locs : List Loc} {cells slots : Nat} {Q : State → Prop}
variable {cc : ByteArray} {pc : Nat} {ls : Array Slot} {rest : List Value} {D : va_G} {A : Nat → Prop} {ws : va_W} {H0 : Heap} {cI cL : ClassId}
theorem nwI (hexec : p.tables.exec = Jvm.exec) (hb : c.code = cc) (harr : (Cond.arrayClass (newarray.typeOf .int)).before args s = true) (hK : va_K D vwCl [(cI, .int), (cL, .long)] s) (hP : va_P D vwCl ws H) (hD : va_D A ws) (hS : va_S A H0 H locs) (hA : ∀ q, H0.size ≤ q → A q)
    {n : Int32} {N' : Nat} (hn : ¬ n < 0) (hN : n.toNatClampNeg = N') (hbytes : N' * componentBytes .int ≤ 536870912) (hcells : cells + 1 ≤ R.cells) (hslots : slots + N' ≤ R.slots) (hdg : decode cc pc = .ok (.newarray .int, 2))
    (kk : ∀ (q : Nat) (H1 : Heap), va_P D vwCl (ws ++ [(q, .inl (cI, N', .inl (fun _ => 0)))]) H1 → va_D A (ws ++ [(q, .inl (cI, N', .inl (fun _ => 0)))]) → va_S A H0 H1 locs →
      W p l e R s m args below meth c H1 locs (cells + 1) (slots + N') Q (F0 m (pc + 2) ls (.ref q :: rest))) : W p l e R s m args below meth c H locs cells slots Q (F0 m pc ls (.int n :: rest)) := by
  refine va_newa (atype := .int) (ty := .int) (a0 := (N', .inl (fun _ => 0))) hexec hb harr rfl hK hP hD hS hA (fun cA => rfl) hn hN hbytes hcells hslots hdg (fun q cA H1 hK1 hP1 hD1 hS1 => ?_)
  have e1 : s.vm.findClass ("[" ++ FieldType.int.toString) = some cI := (hK.2 0 (cI, .int) rfl).2
  have e2 : s.vm.findClass ("[" ++ FieldType.int.toString) = some cA := (hK1.2 2 (cA, .int) rfl).2
  have e3 : cA = cI := Option.some.inj (e2.symm.trans e1)
  subst e3
  exact kk q H1 hP1 hD1 hS1
theorem nwL (hexec : p.tables.exec = Jvm.exec) (hb : c.code = cc) (harr : (Cond.arrayClass (newarray.typeOf .long)).before args s = true) (hK : va_K D vwCl [(cI, .int), (cL, .long)] s) (hP : va_P D vwCl ws H) (hD : va_D A ws) (hS : va_S A H0 H locs) (hA : ∀ q, H0.size ≤ q → A q)
    {n : Int32} {N' : Nat} (hn : ¬ n < 0) (hN : n.toNatClampNeg = N') (hbytes : N' * componentBytes .long ≤ 536870912) (hcells : cells + 1 ≤ R.cells) (hslots : slots + N' ≤ R.slots) (hdg : decode cc pc = .ok (.newarray .long, 2))
    (kk : ∀ (q : Nat) (H1 : Heap), va_P D vwCl (ws ++ [(q, .inl (cL, N', .inr (.inl (fun _ => 0))))]) H1 → va_D A (ws ++ [(q, .inl (cL, N', .inr (.inl (fun _ => 0))))]) → va_S A H0 H1 locs →
      W p l e R s m args below meth c H1 locs (cells + 1) (slots + N') Q (F0 m (pc + 2) ls (.ref q :: rest))) : W p l e R s m args below meth c H locs cells slots Q (F0 m pc ls (.int n :: rest)) := by
  refine va_newa (atype := .long) (ty := .long) (a0 := (N', .inr (.inl (fun _ => 0)))) hexec hb harr rfl hK hP hD hS hA (fun cA => rfl) hn hN hbytes hcells hslots hdg (fun q cA H1 hK1 hP1 hD1 hS1 => ?_)
  have e1 : s.vm.findClass ("[" ++ FieldType.long.toString) = some cL := (hK.2 1 (cL, .long) rfl).2
  have e2 : s.vm.findClass ("[" ++ FieldType.long.toString) = some cA := (hK1.2 2 (cA, .long) rfl).2
  have e3 : cA = cL := Option.some.inj (e2.symm.trans e1)
  subst e3
  exact kk q H1 hP1 hD1 hS1
end ctor
theorem set_lit {σ : HS} {k : Int32} {j : Nat} (h1 : ¬ k < 0) (h2 : ¬ nI 4 ≤ k) (h3 : ¬ (k < 0 ∨ 4 ≤ k.toNatClampNeg)) (hj : k.toNatClampNeg = j) (x : Int32) : f8_set 0 4 k x σ = some (uI σ 0 j x) := by
  unfold f8_set; rw [if_neg h1, if_neg h2, if_neg h3, hj]
theorem setm_arg {S : Shp} : True := trivial
theorem one_D {A : Nat → Prop} {q : Nat} {e e2 : va_E} {sz : Nat} (h : va_D A [(q, e)]) : va_D (va_A [(q, e)] sz) [(q, e2)] := by
  refine ⟨fun i j x y hi hj _ => ?_, fun k x hk => ?_⟩
  · have h1 : i < 1 := (List.getElem?_eq_some_iff.mp hi).1
    have h2 : j < 1 := (List.getElem?_eq_some_iff.mp hj).1
    omega
  · have h1 : k < 1 := (List.getElem?_eq_some_iff.mp hk).1
    rw [show k = 0 by omega] at hk
    cases hk
    exact Or.inl ⟨0, e, rfl⟩
theorem met_set {l : Launch} (D : va_G) (cI cL : ClassId) (q : Nat) (f : Nat → Int32) (k : Int32) (j : Nat) (x : Int32) (h1 : ¬ k < 0) (h2 : ¬ nI 4 ≤ k) (h3 : ¬ (k < 0 ∨ 4 ≤ k.toNatClampNeg)) (hj : k.toNatClampNeg = j) (sz : Nat) :
    Met l yX8_set (wsU yX8_set cX8_set 3 none) rm8_set (va_Pc [.ref q, .int k, .int x] (CPre D cI cL [(q, .inl (cI, 4, .inl f))] sz)) (va_Qv (fun _ : Unit => True) (fun _ t => va_P D vwCl [(q, .inl (cI, 4, .inl (upd f j x)))] t.heap) (va_A [(q, .inl (cI, 4, .inl f))] sz)) 0 0 (va_A [(q, .inl (cI, 4, .inl f))] sz) := by
  have hA : ∀ z, va_A (wd [(0, 4, [])] cI cL (fun _ => q) zHS) sz z ↔ va_A [(q, .inl (cI, 4, .inl f))] sz z := by
    intro z
    constructor
    · rintro (⟨k, e, hk⟩ | h)
      · have h1 : k < 1 := (List.getElem?_eq_some_iff.mp hk).1
        rw [show k = 0 by omega] at hk
        cases hk
        exact Or.inl ⟨0, _, rfl⟩
      · exact Or.inr h
    · rintro (⟨k, e, hk⟩ | h)
      · have h1 : k < 1 := (List.getElem?_eq_some_iff.mp hk).1
        rw [show k = 0 by omega] at hk
        cases hk
        exact Or.inl ⟨0, _, rfl⟩
      · exact Or.inr h
  have hAe : va_A (wd [(0, 4, [])] cI cL (fun _ => q) zHS) sz = va_A [(q, .inl (cI, 4, .inl f))] sz := funext fun z => propext (hA z)
  have M0 := A8_setS (l := l) (S := [(0, 4, [])]) 0 4 rfl k x (fun _ => f, fun _ _ => 0) _ (set_lit (σ := (fun _ => f, fun _ _ => 0)) h1 h2 h3 hj x) D cI cL (fun _ => q) sz
  rw [hAe] at M0
  intro p e ha hc hk s m args below hf happ hP hK
  obtain ⟨hargs, hz, hp, hk2, hd, hn⟩ := hP
  obtain ⟨t, o, r1, r2, r3, r4, r5⟩ := M0 p e ha hc hk s m args below hf happ ⟨hargs, hz, hp, hk2, wd_D (S := [(0, 4, [])]) (cI := cI) (cL := cL) (ad := fun _ => q) (σ := (fun _ => f, fun _ _ => 0)) hd, hn⟩ hK
  refine ⟨t, o, r1, r2, r3, ⟨⟨(), r4.1.1, trivial, ?_⟩, r4.2⟩, r5⟩
  have hp2 := r4.1.2
  exact hp2
theorem pd_X7_init : yX7_init.cls ≠ "java/lang/invoke/MethodHandle" ∧ yX7_init.cls ≠ "java/lang/invoke/VarHandle" ∧ (parseMethodDescriptor yX7_init.desc).map (fun d => d.parameters.length) = some 0 := by decide +kernel
def rm7_init : Room := { frames := 1, cells := 3, slots := 408, locals := 22 }
set_option maxHeartbeats 8000000 in
set_option maxRecDepth 100000 in
theorem c7_init {l : Launch} (D : va_G) (cI cL : ClassId) (h0 : Nat) (sz : Nat) : Met l yX7_init (wsU yX7_init cX7_init 2 none) rm7_init (va_Pc [.ref h0] (CPre D cI cL [(h0, .inr (7, [.null, .null, .null]))] sz)) (va_Qv (fun _ : Nat × Nat × Nat => True) (fun (u : Nat × Nat × Nat) t => va_P D vwCl [(h0, .inr (7, [.ref u.1, .ref u.2.1, .ref u.2.2])), (u.2.1, .inl (cI, 4, .inl (fun _ => 0))), (u.2.2, .inl (cI, 400, .inl (fun _ => 0))), (u.1, .inl (cI, 4, .inl (upd (upd (upd (upd (fun _ => 0) 0 ((-1))) 1 ((-1))) 2 ((-1))) 3 ((-1)))))] t.heap ∧ va_D (va_A [(h0, .inr (7, [.null, .null, .null]))] sz) [(h0, .inr (7, [.ref u.1, .ref u.2.1, .ref u.2.2])), (u.2.1, .inl (cI, 4, .inl (fun _ => 0))), (u.2.2, .inl (cI, 400, .inl (fun _ => 0))), (u.1, .inl (cI, 4, .inl (upd (upd (upd (upd (fun _ => 0) 0 ((-1))) 1 ((-1))) 2 ((-1))) 3 ((-1)))))]) (va_A [(h0, .inr (7, [.null, .null, .null]))] sz)) 3 408 (va_A [(h0, .inr (7, [.null, .null, .null]))] sz) := by
  refine Met.ofW (cc := cX7_init) (maxL := 2) (ret := none) (by decide +kernel) rfl ?_
  intro p e s m args below meth c s₁ B hml hv
  obtain ⟨rfl, hsz, hP, hK, hD0, hN⟩ := hv
  have hx := B.exec
  have hb := B.bytes
  have hr := B.returns
  have hts := atoms_spec (ws := wsU yX7_init cX7_init 2 none) B.pre
  have hown : s.vm.findClass RX7 = some m.cls := findClass_of_methodNamed B.named
  have hlocks := B.notSynchronized
  have hin : meth.name = "<init>" := (name_of_methodNamed B.named B.method).1
  subst hsz
  have hD := hD0.self (sz := s.heap.size)
  generalize hAe : va_A [(h0, .inr (7, [.null, .null, .null]))] s.heap.size = A at hD ⊢
  have hA : ∀ q : Nat, s.heap.size ≤ q → A q := fun q h => by rw [← hAe]; exact Or.inr h
  have hS : va_S A s.heap s.heap [] := va_S.rf
  have hP : va_P D vwCl [(h0, .inr (7, [.null, .null, .null]))] s.heap := hP
  have hl := lv_entry ([.ref h0]) (n := 2) (Nat.le_of_ble_eq_true rfl)
  rw [lg_entry_eq]
  generalize (lg_sl ([.ref h0]) ++ List.replicate (2 - (lg_sl ([.ref h0])).length) Slot.unset).toArray = ls at hl ⊢
  have hl : lv_has ls 2 [(0, .ref h0)] := hl
  refine lv_aload_n (pc := 0) hx hb dX7_init_0 rfl (lv_at hl 0 rfl) ?_
  refine W.objInit hx hb hown (hts _ (wsU_in ml_X7_3)) (hts _ (wsU_in oi_inst)) (hts _ (wsU_in oi_code)) rfl (by rw [hml]; exact hl.1) rfl dX7_init_1 (Nat.le_of_ble_eq_true rfl) (Nat.le_of_ble_eq_true rfl) ?_
  refine W.eq (g2 := F0 m 4 ls []) rfl ?_
  refine lv_aload_n (pc := 4) hx hb dX7_init_4 rfl (lv_at hl 0 rfl) ?_
  refine lv_iconst (pc := 5) (v := 4) hx hb dX7_init_5 (by decide) ?_
  refine nwI (pc := 6) hx hb (hts _ (wsU_in arc_int)) hK hP hD hS hA (by decide) (N' := 4) (by decide) (Nat.le_of_ble_eq_true rfl) (Nat.le_of_ble_eq_true rfl) (Nat.le_of_ble_eq_true rfl) dX7_init_6 (fun q1 H hP hD hS => ?_)
  have hP : va_P D vwCl [(h0, .inr (7, [.null, .null, .null])), (q1, .inl (cI, 4, .inl (fun _ => 0)))] H := hP
  have hD : va_D A [(h0, .inr (7, [.null, .null, .null])), (q1, .inl (cI, 4, .inl (fun _ => 0)))] := hD
  refine va_putF (pc := 8) (D := D) (ci := 7) (v := .ref q1) (ty := .array .int) (C := RX7) (T := TX7) (N := 3) hx hb hts (fun w hw => wsU_in (uw_X7 w hw)) tyX7 tyX7_ok nmX7 hown hK hP hD hS 0 rfl rfl 0 (by decide) (hts _ (wsU_in fl_X7_11)) (fun _ h9 => h9) rfl hin rfl (by decide +kernel) rfl rfl (Nat.le_of_ble_eq_true rfl) dX7_init_8 (fun H locs hP hD hS => ?_)
  have hP : va_P D vwCl [(h0, .inr (7, [.ref q1, .null, .null])), (q1, .inl (cI, 4, .inl (fun _ => 0)))] H := hP
  have hD : va_D A [(h0, .inr (7, [.ref q1, .null, .null])), (q1, .inl (cI, 4, .inl (fun _ => 0)))] := hD
  refine lv_aload_n (pc := 11) hx hb dX7_init_11 rfl (lv_at hl 0 rfl) ?_
  refine lv_iconst (pc := 12) (v := 4) hx hb dX7_init_12 (by decide) ?_
  refine nwI (pc := 13) hx hb (hts _ (wsU_in arc_int)) hK hP hD hS hA (by decide) (N' := 4) (by decide) (Nat.le_of_ble_eq_true rfl) (Nat.le_of_ble_eq_true rfl) (Nat.le_of_ble_eq_true rfl) dX7_init_13 (fun q2 H hP hD hS => ?_)
  have hP : va_P D vwCl [(h0, .inr (7, [.ref q1, .null, .null])), (q1, .inl (cI, 4, .inl (fun _ => 0))), (q2, .inl (cI, 4, .inl (fun _ => 0)))] H := hP
  have hD : va_D A [(h0, .inr (7, [.ref q1, .null, .null])), (q1, .inl (cI, 4, .inl (fun _ => 0))), (q2, .inl (cI, 4, .inl (fun _ => 0)))] := hD
  refine va_putF (pc := 15) (D := D) (ci := 7) (v := .ref q2) (ty := .array .int) (C := RX7) (T := TX7) (N := 3) hx hb hts (fun w hw => wsU_in (uw_X7 w hw)) tyX7 tyX7_ok nmX7 hown hK hP hD hS 0 rfl rfl 1 (by decide) (hts _ (wsU_in fl_X7_15)) (fun _ h9 => h9) rfl hin rfl (by decide +kernel) rfl rfl (Nat.le_of_ble_eq_true rfl) dX7_init_15 (fun H locs hP hD hS => ?_)
  have hP : va_P D vwCl [(h0, .inr (7, [.ref q1, .ref q2, .null])), (q1, .inl (cI, 4, .inl (fun _ => 0))), (q2, .inl (cI, 4, .inl (fun _ => 0)))] H := hP
  have hD : va_D A [(h0, .inr (7, [.ref q1, .ref q2, .null])), (q1, .inl (cI, 4, .inl (fun _ => 0))), (q2, .inl (cI, 4, .inl (fun _ => 0)))] := hD
  refine lv_aload_n (pc := 18) hx hb dX7_init_18 rfl (lv_at hl 0 rfl) ?_
  refine lv_sipush (pc := 19) (v := 400) hx hb dX7_init_19 (by decide) ?_
  refine nwI (pc := 22) hx hb (hts _ (wsU_in arc_int)) hK hP hD hS hA (by decide) (N' := 400) (by decide) (Nat.le_of_ble_eq_true rfl) (Nat.le_of_ble_eq_true rfl) (Nat.le_of_ble_eq_true rfl) dX7_init_22 (fun q3 H hP hD hS => ?_)
  have hP : va_P D vwCl [(h0, .inr (7, [.ref q1, .ref q2, .null])), (q1, .inl (cI, 4, .inl (fun _ => 0))), (q2, .inl (cI, 4, .inl (fun _ => 0))), (q3, .inl (cI, 400, .inl (fun _ => 0)))] H := hP
  have hD : va_D A [(h0, .inr (7, [.ref q1, .ref q2, .null])), (q1, .inl (cI, 4, .inl (fun _ => 0))), (q2, .inl (cI, 4, .inl (fun _ => 0))), (q3, .inl (cI, 400, .inl (fun _ => 0)))] := hD
  refine va_putF (pc := 24) (D := D) (ci := 7) (v := .ref q3) (ty := .array .int) (C := RX7) (T := TX7) (N := 3) hx hb hts (fun w hw => wsU_in (uw_X7 w hw)) tyX7 tyX7_ok nmX7 hown hK hP hD hS 0 rfl rfl 2 (by decide) (hts _ (wsU_in fl_X7_18)) (fun _ h9 => h9) rfl hin rfl (by decide +kernel) rfl rfl (Nat.le_of_ble_eq_true rfl) dX7_init_24 (fun H locs hP hD hS => ?_)
  have hP : va_P D vwCl [(h0, .inr (7, [.ref q1, .ref q2, .ref q3])), (q1, .inl (cI, 4, .inl (fun _ => 0))), (q2, .inl (cI, 4, .inl (fun _ => 0))), (q3, .inl (cI, 400, .inl (fun _ => 0)))] H := hP
  have hD : va_D A [(h0, .inr (7, [.ref q1, .ref q2, .ref q3])), (q1, .inl (cI, 4, .inl (fun _ => 0))), (q2, .inl (cI, 4, .inl (fun _ => 0))), (q3, .inl (cI, 400, .inl (fun _ => 0)))] := hD
  refine lv_iconst (pc := 27) (v := 0) hx hb dX7_init_27 (by decide) ?_
  refine lv_istore_n (pc := 28) (lv' := [(1, .int 0), (0, .ref h0)]) hx hb dX7_init_28 rfl hl (by decide) rfl (fun ls hl => ?_)
  refine lv_iload_n (pc := 29) hx hb dX7_init_29 rfl (lv_at hl 0 rfl) ?_
  refine lv_iconst (pc := 30) (v := 4) hx hb dX7_init_30 (by decide) ?_
  refine lv_icmp_ge (pc := 31) (tgt := 49) hx hb dX7_init_31 (by decide) (fun cj => absurd cj (by decide)) (fun cj => ?_)
  refine lv_aload_n (pc := 34) hx hb dX7_init_34 rfl (lv_at hl 1 rfl) ?_
  refine va_get (pc := 35) (D := D) (ci := 7) (v := .ref q1) (C := RX7) (T := TX7) (N := 3) hx hb hts (fun w hw => wsU_in (uw_X7 w hw)) hown hK hP 0 rfl rfl 0 (by decide) (hts _ (wsU_in fl_X7_11)) (fun _ h9 => h9) rfl dX7_init_35 ?_
  refine lv_iload_n (pc := 38) hx hb dX7_init_38 rfl (lv_at hl 0 rfl) ?_
  refine lv_iconst (pc := 39) (v := (-1)) hx hb dX7_init_39 (by decide) ?_
  have hPc := hP.sub (ws' := [(q1, .inl (cI, 4, .inl (fun _ => 0)))]) [1] rfl
  have hDc := hD.sub (ws' := [(q1, .inl (cI, 4, .inl (fun _ => 0)))]) [1] (by decide) rfl
  have hFc := va_free (wc := [(q1, .inl (cI, 4, .inl (fun _ => 0)))]) hD hS hA [1] rfl
  refine va_callv (S := Unit) (post := fun _ => True) (B := fun _ t => va_P D vwCl [(q1, .inl (cI, 4, .inl (upd (fun _ => 0) 0 ((-1)))))] t.heap) (va_runSN (As := [.ref q1, .int 0, .int (-1)]) (rest := []) ⟨hx, hb, hml, hown, hts⟩ (met_set D cI cL q1 (fun _ => 0) 0 0 ((-1)) (by decide) (by decide) (by decide) (by decide) H.size) ⟨va_cnB 3 hts (wsU_good cd_X8_set) rfl rfl rfl (hN _ mn_X7_21 rfl) (hts _ (wsU_in ini_X8)) pd_X8_set ⟨Nat.le_of_ble_eq_true rfl, Nat.le_of_ble_eq_true rfl⟩, hts _ (wsU_in sm_X8_set), trivial⟩ ⟨cblind, fun U hU hW => ⟨rfl, by rw [hU], by rw [hU]; exact hPc, va_K.moved hW.alike hK, hDc.weaken (fun _ _ _ _ => trivial), NW.warm hW hN⟩⟩ rfl rfl hl.1 rfl (lv_room (Nat.le_of_ble_eq_true rfl)) dX7_init_40 ⟨Nat.le_of_ble_eq_true rfl, Nat.le_of_ble_eq_true rfl⟩) hS (fun q _ h => hFc q h) hFc (fun u t H1 locs ht hvm hw hB hz1 hk1 hS => ?_)
  rw [ht] at hB
  obtain ⟨hP, hD⟩ := va_join (wr := [(h0, .inr (7, [.ref q1, .ref q2, .ref q3])), (q2, .inl (cI, 4, .inl (fun _ => 0))), (q3, .inl (cI, 400, .inl (fun _ => 0)))]) (w1 := [(q1, .inl (cI, 4, .inl (upd (fun _ => 0) 0 ((-1)))))]) hP hD [1] [0, 2, 3] rfl rfl (by decide +kernel) (by decide +kernel) hk1 hFc hB (one_D hDc)
  generalize H1 = H at hP hS ⊢
  have hP : va_P D vwCl [(h0, .inr (7, [.ref q1, .ref q2, .ref q3])), (q2, .inl (cI, 4, .inl (fun _ => 0))), (q3, .inl (cI, 400, .inl (fun _ => 0))), (q1, .inl (cI, 4, .inl (upd (fun _ => 0) 0 ((-1)))))] H := hP
  have hD : va_D A [(h0, .inr (7, [.ref q1, .ref q2, .ref q3])), (q2, .inl (cI, 4, .inl (fun _ => 0))), (q3, .inl (cI, 400, .inl (fun _ => 0))), (q1, .inl (cI, 4, .inl (upd (fun _ => 0) 0 ((-1)))))] := hD
  refine lv_iinc (pc := 43) (v := 1) (lv' := [(1, .int 1), (0, .ref h0)]) hx hb dX7_init_43 hl (k := 0) rfl (by decide) (by decide) rfl (fun ls hl => ?_)
  refine lv_goto (pc := 46) (tgt := 29) hx hb dX7_init_46 (by decide) ?_
  refine lv_iload_n (pc := 29) hx hb dX7_init_29 rfl (lv_at hl 0 rfl) ?_
  refine lv_iconst (pc := 30) (v := 4) hx hb dX7_init_30 (by decide) ?_
  refine lv_icmp_ge (pc := 31) (tgt := 49) hx hb dX7_init_31 (by decide) (fun cj => absurd cj (by decide)) (fun cj => ?_)
  refine lv_aload_n (pc := 34) hx hb dX7_init_34 rfl (lv_at hl 1 rfl) ?_
  refine va_get (pc := 35) (D := D) (ci := 7) (v := .ref q1) (C := RX7) (T := TX7) (N := 3) hx hb hts (fun w hw => wsU_in (uw_X7 w hw)) hown hK hP 0 rfl rfl 0 (by decide) (hts _ (wsU_in fl_X7_11)) (fun _ h9 => h9) rfl dX7_init_35 ?_
  refine lv_iload_n (pc := 38) hx hb dX7_init_38 rfl (lv_at hl 0 rfl) ?_
  refine lv_iconst (pc := 39) (v := (-1)) hx hb dX7_init_39 (by decide) ?_
  have hPc := hP.sub (ws' := [(q1, .inl (cI, 4, .inl (upd (fun _ => 0) 0 ((-1)))))]) [3] rfl
  have hDc := hD.sub (ws' := [(q1, .inl (cI, 4, .inl (upd (fun _ => 0) 0 ((-1)))))]) [3] (by decide) rfl
  have hFc := va_free (wc := [(q1, .inl (cI, 4, .inl (upd (fun _ => 0) 0 ((-1)))))]) hD hS hA [3] rfl
  refine va_callv (S := Unit) (post := fun _ => True) (B := fun _ t => va_P D vwCl [(q1, .inl (cI, 4, .inl (upd (upd (fun _ => 0) 0 ((-1))) 1 ((-1)))))] t.heap) (va_runSN (As := [.ref q1, .int 1, .int (-1)]) (rest := []) ⟨hx, hb, hml, hown, hts⟩ (met_set D cI cL q1 (upd (fun _ => 0) 0 ((-1))) 1 1 ((-1)) (by decide) (by decide) (by decide) (by decide) H.size) ⟨va_cnB 3 hts (wsU_good cd_X8_set) rfl rfl rfl (hN _ mn_X7_21 rfl) (hts _ (wsU_in ini_X8)) pd_X8_set ⟨Nat.le_of_ble_eq_true rfl, Nat.le_of_ble_eq_true rfl⟩, hts _ (wsU_in sm_X8_set), trivial⟩ ⟨cblind, fun U hU hW => ⟨rfl, by rw [hU], by rw [hU]; exact hPc, va_K.moved hW.alike hK, hDc.weaken (fun _ _ _ _ => trivial), NW.warm hW hN⟩⟩ rfl rfl hl.1 rfl (lv_room (Nat.le_of_ble_eq_true rfl)) dX7_init_40 ⟨Nat.le_of_ble_eq_true rfl, Nat.le_of_ble_eq_true rfl⟩) hS (fun q _ h => hFc q h) hFc (fun u t H1 locs ht hvm hw hB hz1 hk1 hS => ?_)
  rw [ht] at hB
  obtain ⟨hP, hD⟩ := va_join (wr := [(h0, .inr (7, [.ref q1, .ref q2, .ref q3])), (q2, .inl (cI, 4, .inl (fun _ => 0))), (q3, .inl (cI, 400, .inl (fun _ => 0)))]) (w1 := [(q1, .inl (cI, 4, .inl (upd (upd (fun _ => 0) 0 ((-1))) 1 ((-1)))))]) hP hD [3] [0, 1, 2] rfl rfl (by decide +kernel) (by decide +kernel) hk1 hFc hB (one_D hDc)
  generalize H1 = H at hP hS ⊢
  have hP : va_P D vwCl [(h0, .inr (7, [.ref q1, .ref q2, .ref q3])), (q2, .inl (cI, 4, .inl (fun _ => 0))), (q3, .inl (cI, 400, .inl (fun _ => 0))), (q1, .inl (cI, 4, .inl (upd (upd (fun _ => 0) 0 ((-1))) 1 ((-1)))))] H := hP
  have hD : va_D A [(h0, .inr (7, [.ref q1, .ref q2, .ref q3])), (q2, .inl (cI, 4, .inl (fun _ => 0))), (q3, .inl (cI, 400, .inl (fun _ => 0))), (q1, .inl (cI, 4, .inl (upd (upd (fun _ => 0) 0 ((-1))) 1 ((-1)))))] := hD
  refine lv_iinc (pc := 43) (v := 2) (lv' := [(1, .int 2), (0, .ref h0)]) hx hb dX7_init_43 hl (k := 0) rfl (by decide) (by decide) rfl (fun ls hl => ?_)
  refine lv_goto (pc := 46) (tgt := 29) hx hb dX7_init_46 (by decide) ?_
  refine lv_iload_n (pc := 29) hx hb dX7_init_29 rfl (lv_at hl 0 rfl) ?_
  refine lv_iconst (pc := 30) (v := 4) hx hb dX7_init_30 (by decide) ?_
  refine lv_icmp_ge (pc := 31) (tgt := 49) hx hb dX7_init_31 (by decide) (fun cj => absurd cj (by decide)) (fun cj => ?_)
  refine lv_aload_n (pc := 34) hx hb dX7_init_34 rfl (lv_at hl 1 rfl) ?_
  refine va_get (pc := 35) (D := D) (ci := 7) (v := .ref q1) (C := RX7) (T := TX7) (N := 3) hx hb hts (fun w hw => wsU_in (uw_X7 w hw)) hown hK hP 0 rfl rfl 0 (by decide) (hts _ (wsU_in fl_X7_11)) (fun _ h9 => h9) rfl dX7_init_35 ?_
  refine lv_iload_n (pc := 38) hx hb dX7_init_38 rfl (lv_at hl 0 rfl) ?_
  refine lv_iconst (pc := 39) (v := (-1)) hx hb dX7_init_39 (by decide) ?_
  have hPc := hP.sub (ws' := [(q1, .inl (cI, 4, .inl (upd (upd (fun _ => 0) 0 ((-1))) 1 ((-1)))))]) [3] rfl
  have hDc := hD.sub (ws' := [(q1, .inl (cI, 4, .inl (upd (upd (fun _ => 0) 0 ((-1))) 1 ((-1)))))]) [3] (by decide) rfl
  have hFc := va_free (wc := [(q1, .inl (cI, 4, .inl (upd (upd (fun _ => 0) 0 ((-1))) 1 ((-1)))))]) hD hS hA [3] rfl
  refine va_callv (S := Unit) (post := fun _ => True) (B := fun _ t => va_P D vwCl [(q1, .inl (cI, 4, .inl (upd (upd (upd (fun _ => 0) 0 ((-1))) 1 ((-1))) 2 ((-1)))))] t.heap) (va_runSN (As := [.ref q1, .int 2, .int (-1)]) (rest := []) ⟨hx, hb, hml, hown, hts⟩ (met_set D cI cL q1 (upd (upd (fun _ => 0) 0 ((-1))) 1 ((-1))) 2 2 ((-1)) (by decide) (by decide) (by decide) (by decide) H.size) ⟨va_cnB 3 hts (wsU_good cd_X8_set) rfl rfl rfl (hN _ mn_X7_21 rfl) (hts _ (wsU_in ini_X8)) pd_X8_set ⟨Nat.le_of_ble_eq_true rfl, Nat.le_of_ble_eq_true rfl⟩, hts _ (wsU_in sm_X8_set), trivial⟩ ⟨cblind, fun U hU hW => ⟨rfl, by rw [hU], by rw [hU]; exact hPc, va_K.moved hW.alike hK, hDc.weaken (fun _ _ _ _ => trivial), NW.warm hW hN⟩⟩ rfl rfl hl.1 rfl (lv_room (Nat.le_of_ble_eq_true rfl)) dX7_init_40 ⟨Nat.le_of_ble_eq_true rfl, Nat.le_of_ble_eq_true rfl⟩) hS (fun q _ h => hFc q h) hFc (fun u t H1 locs ht hvm hw hB hz1 hk1 hS => ?_)
  rw [ht] at hB
  obtain ⟨hP, hD⟩ := va_join (wr := [(h0, .inr (7, [.ref q1, .ref q2, .ref q3])), (q2, .inl (cI, 4, .inl (fun _ => 0))), (q3, .inl (cI, 400, .inl (fun _ => 0)))]) (w1 := [(q1, .inl (cI, 4, .inl (upd (upd (upd (fun _ => 0) 0 ((-1))) 1 ((-1))) 2 ((-1)))))]) hP hD [3] [0, 1, 2] rfl rfl (by decide +kernel) (by decide +kernel) hk1 hFc hB (one_D hDc)
  generalize H1 = H at hP hS ⊢
  have hP : va_P D vwCl [(h0, .inr (7, [.ref q1, .ref q2, .ref q3])), (q2, .inl (cI, 4, .inl (fun _ => 0))), (q3, .inl (cI, 400, .inl (fun _ => 0))), (q1, .inl (cI, 4, .inl (upd (upd (upd (fun _ => 0) 0 ((-1))) 1 ((-1))) 2 ((-1)))))] H := hP
  have hD : va_D A [(h0, .inr (7, [.ref q1, .ref q2, .ref q3])), (q2, .inl (cI, 4, .inl (fun _ => 0))), (q3, .inl (cI, 400, .inl (fun _ => 0))), (q1, .inl (cI, 4, .inl (upd (upd (upd (fun _ => 0) 0 ((-1))) 1 ((-1))) 2 ((-1)))))] := hD
  refine lv_iinc (pc := 43) (v := 3) (lv' := [(1, .int 3), (0, .ref h0)]) hx hb dX7_init_43 hl (k := 0) rfl (by decide) (by decide) rfl (fun ls hl => ?_)
  refine lv_goto (pc := 46) (tgt := 29) hx hb dX7_init_46 (by decide) ?_
  refine lv_iload_n (pc := 29) hx hb dX7_init_29 rfl (lv_at hl 0 rfl) ?_
  refine lv_iconst (pc := 30) (v := 4) hx hb dX7_init_30 (by decide) ?_
  refine lv_icmp_ge (pc := 31) (tgt := 49) hx hb dX7_init_31 (by decide) (fun cj => absurd cj (by decide)) (fun cj => ?_)
  refine lv_aload_n (pc := 34) hx hb dX7_init_34 rfl (lv_at hl 1 rfl) ?_
  refine va_get (pc := 35) (D := D) (ci := 7) (v := .ref q1) (C := RX7) (T := TX7) (N := 3) hx hb hts (fun w hw => wsU_in (uw_X7 w hw)) hown hK hP 0 rfl rfl 0 (by decide) (hts _ (wsU_in fl_X7_11)) (fun _ h9 => h9) rfl dX7_init_35 ?_
  refine lv_iload_n (pc := 38) hx hb dX7_init_38 rfl (lv_at hl 0 rfl) ?_
  refine lv_iconst (pc := 39) (v := (-1)) hx hb dX7_init_39 (by decide) ?_
  have hPc := hP.sub (ws' := [(q1, .inl (cI, 4, .inl (upd (upd (upd (fun _ => 0) 0 ((-1))) 1 ((-1))) 2 ((-1)))))]) [3] rfl
  have hDc := hD.sub (ws' := [(q1, .inl (cI, 4, .inl (upd (upd (upd (fun _ => 0) 0 ((-1))) 1 ((-1))) 2 ((-1)))))]) [3] (by decide) rfl
  have hFc := va_free (wc := [(q1, .inl (cI, 4, .inl (upd (upd (upd (fun _ => 0) 0 ((-1))) 1 ((-1))) 2 ((-1)))))]) hD hS hA [3] rfl
  refine va_callv (S := Unit) (post := fun _ => True) (B := fun _ t => va_P D vwCl [(q1, .inl (cI, 4, .inl (upd (upd (upd (upd (fun _ => 0) 0 ((-1))) 1 ((-1))) 2 ((-1))) 3 ((-1)))))] t.heap) (va_runSN (As := [.ref q1, .int 3, .int (-1)]) (rest := []) ⟨hx, hb, hml, hown, hts⟩ (met_set D cI cL q1 (upd (upd (upd (fun _ => 0) 0 ((-1))) 1 ((-1))) 2 ((-1))) 3 3 ((-1)) (by decide) (by decide) (by decide) (by decide) H.size) ⟨va_cnB 3 hts (wsU_good cd_X8_set) rfl rfl rfl (hN _ mn_X7_21 rfl) (hts _ (wsU_in ini_X8)) pd_X8_set ⟨Nat.le_of_ble_eq_true rfl, Nat.le_of_ble_eq_true rfl⟩, hts _ (wsU_in sm_X8_set), trivial⟩ ⟨cblind, fun U hU hW => ⟨rfl, by rw [hU], by rw [hU]; exact hPc, va_K.moved hW.alike hK, hDc.weaken (fun _ _ _ _ => trivial), NW.warm hW hN⟩⟩ rfl rfl hl.1 rfl (lv_room (Nat.le_of_ble_eq_true rfl)) dX7_init_40 ⟨Nat.le_of_ble_eq_true rfl, Nat.le_of_ble_eq_true rfl⟩) hS (fun q _ h => hFc q h) hFc (fun u t H1 locs ht hvm hw hB hz1 hk1 hS => ?_)
  rw [ht] at hB
  obtain ⟨hP, hD⟩ := va_join (wr := [(h0, .inr (7, [.ref q1, .ref q2, .ref q3])), (q2, .inl (cI, 4, .inl (fun _ => 0))), (q3, .inl (cI, 400, .inl (fun _ => 0)))]) (w1 := [(q1, .inl (cI, 4, .inl (upd (upd (upd (upd (fun _ => 0) 0 ((-1))) 1 ((-1))) 2 ((-1))) 3 ((-1)))))]) hP hD [3] [0, 1, 2] rfl rfl (by decide +kernel) (by decide +kernel) hk1 hFc hB (one_D hDc)
  generalize H1 = H at hP hS ⊢
  have hP : va_P D vwCl [(h0, .inr (7, [.ref q1, .ref q2, .ref q3])), (q2, .inl (cI, 4, .inl (fun _ => 0))), (q3, .inl (cI, 400, .inl (fun _ => 0))), (q1, .inl (cI, 4, .inl (upd (upd (upd (upd (fun _ => 0) 0 ((-1))) 1 ((-1))) 2 ((-1))) 3 ((-1)))))] H := hP
  have hD : va_D A [(h0, .inr (7, [.ref q1, .ref q2, .ref q3])), (q2, .inl (cI, 4, .inl (fun _ => 0))), (q3, .inl (cI, 400, .inl (fun _ => 0))), (q1, .inl (cI, 4, .inl (upd (upd (upd (upd (fun _ => 0) 0 ((-1))) 1 ((-1))) 2 ((-1))) 3 ((-1)))))] := hD
  refine lv_iinc (pc := 43) (v := 4) (lv' := [(1, .int 4), (0, .ref h0)]) hx hb dX7_init_43 hl (k := 0) rfl (by decide) (by decide) rfl (fun ls hl => ?_)
  refine lv_goto (pc := 46) (tgt := 29) hx hb dX7_init_46 (by decide) ?_
  refine lv_iload_n (pc := 29) hx hb dX7_init_29 rfl (lv_at hl 0 rfl) ?_
  refine lv_iconst (pc := 30) (v := 4) hx hb dX7_init_30 (by decide) ?_
  refine lv_icmp_ge (pc := 31) (tgt := 49) hx hb dX7_init_31 (by decide) (fun cj => ?_) (fun cj => absurd (by decide) cj)
  refine W.widen (k := 3) (n := 408) (Nat.le_of_ble_eq_true rfl) (Nat.le_of_ble_eq_true rfl) ?_
  exact W.vret hx hb hr (fun t ht hW => ⟨⟨(q1, q2, q3), rfl, trivial, by rw [ht]; exact hP, hD⟩, hS.F ht⟩) hS.2.2 dX7_init_49
theorem pd_X4_init : yX4_init.cls ≠ "java/lang/invoke/MethodHandle" ∧ yX4_init.cls ≠ "java/lang/invoke/VarHandle" ∧ (parseMethodDescriptor yX4_init.desc).map (fun d => d.parameters.length) = some 0 := by decide +kernel
def rm4_init : Room := { frames := 1, cells := 6, slots := 70, locals := 12 }
set_option maxHeartbeats 8000000 in
set_option maxRecDepth 100000 in
theorem c4_init {l : Launch} (D : va_G) (cI cL : ClassId) (h0 : Nat) (sz : Nat) : Met l yX4_init (wsU yX4_init cX4_init 1 none) rm4_init (va_Pc [.ref h0] (CPre D cI cL [(h0, .inr (4, [.int 0, .int 0, .int 0, .null, .null, .null, .null, .null, .null]))] sz)) (va_Qv (fun _ : Nat × Nat × Nat × Nat × Nat × Nat => True) (fun (u : Nat × Nat × Nat × Nat × Nat × Nat) t => va_P D vwCl [(h0, .inr (4, [.int 0, .int 0, .int 0, .ref u.1, .ref u.2.1, .ref u.2.2.1, .ref u.2.2.2.1, .ref u.2.2.2.2.1, .ref u.2.2.2.2.2])), (u.1, .inl (cI, 5, .inl (fun _ => 0))), (u.2.1, .inl (cI, 5, .inl (fun _ => 0))), (u.2.2.1, .inl (cI, 15, .inl (fun _ => 0))), (u.2.2.2.1, .inl (cI, 15, .inl (fun _ => 0))), (u.2.2.2.2.1, .inl (cI, 15, .inl (fun _ => 0))), (u.2.2.2.2.2, .inl (cL, 15, .inr (.inl (fun _ => 0))))] t.heap ∧ va_D (va_A [(h0, .inr (4, [.int 0, .int 0, .int 0, .null, .null, .null, .null, .null, .null]))] sz) [(h0, .inr (4, [.int 0, .int 0, .int 0, .ref u.1, .ref u.2.1, .ref u.2.2.1, .ref u.2.2.2.1, .ref u.2.2.2.2.1, .ref u.2.2.2.2.2])), (u.1, .inl (cI, 5, .inl (fun _ => 0))), (u.2.1, .inl (cI, 5, .inl (fun _ => 0))), (u.2.2.1, .inl (cI, 15, .inl (fun _ => 0))), (u.2.2.2.1, .inl (cI, 15, .inl (fun _ => 0))), (u.2.2.2.2.1, .inl (cI, 15, .inl (fun _ => 0))), (u.2.2.2.2.2, .inl (cL, 15, .inr (.inl (fun _ => 0))))]) (va_A [(h0, .inr (4, [.int 0, .int 0, .int 0, .null, .null, .null, .null, .null, .null]))] sz)) 6 70 (va_A [(h0, .inr (4, [.int 0, .int 0, .int 0, .null, .null, .null, .null, .null, .null]))] sz) := by
  refine Met.ofW (cc := cX4_init) (maxL := 1) (ret := none) (by decide +kernel) rfl ?_
  intro p e s m args below meth c s₁ B hml hv
  obtain ⟨rfl, hsz, hP, hK, hD0, hN⟩ := hv
  have hx := B.exec
  have hb := B.bytes
  have hr := B.returns
  have hts := atoms_spec (ws := wsU yX4_init cX4_init 1 none) B.pre
  have hown : s.vm.findClass RX4 = some m.cls := findClass_of_methodNamed B.named
  have hlocks := B.notSynchronized
  have hin : meth.name = "<init>" := (name_of_methodNamed B.named B.method).1
  subst hsz
  have hD := hD0.self (sz := s.heap.size)
  generalize hAe : va_A [(h0, .inr (4, [.int 0, .int 0, .int 0, .null, .null, .null, .null, .null, .null]))] s.heap.size = A at hD ⊢
  have hA : ∀ q : Nat, s.heap.size ≤ q → A q := fun q h => by rw [← hAe]; exact Or.inr h
  have hS : va_S A s.heap s.heap [] := va_S.rf
  have hP : va_P D vwCl [(h0, .inr (4, [.int 0, .int 0, .int 0, .null, .null, .null, .null, .null, .null]))] s.heap := hP
  have hl := lv_entry ([.ref h0]) (n := 1) (Nat.le_of_ble_eq_true rfl)
  rw [lg_entry_eq]
  generalize (lg_sl ([.ref h0]) ++ List.replicate (1 - (lg_sl ([.ref h0])).length) Slot.unset).toArray = ls at hl ⊢
  have hl : lv_has ls 1 [(0, .ref h0)] := hl
  refine lv_aload_n (pc := 0) hx hb dX4_init_0 rfl (lv_at hl 0 rfl) ?_
  refine W.objInit hx hb hown (hts _ (wsU_in ml_X4_3)) (hts _ (wsU_in oi_inst)) (hts _ (wsU_in oi_code)) rfl (by rw [hml]; exact hl.1) rfl dX4_init_1 (Nat.le_of_ble_eq_true rfl) (Nat.le_of_ble_eq_true rfl) ?_
  refine W.eq (g2 := F0 m 4 ls []) rfl ?_
  refine lv_aload_n (pc := 4) hx hb dX4_init_4 rfl (lv_at hl 0 rfl) ?_
  refine lv_iconst (pc := 5) (v := 0) hx hb dX4_init_5 (by decide) ?_
  refine va_put (pc := 6) (D := D) (ci := 4) (v := .int 0) (ty := .int) (C := RX4) (T := TX4) (N := 9) hx hb hts (fun w hw => wsU_in (uw_X4 w hw)) tyX4 tyX4_ok nmX4 hown hK hP hD hS 0 rfl rfl 0 (by decide) (hts _ (wsU_in fl_X4_9)) (fun _ h9 => h9) rfl (by decide +kernel) rfl rfl (Nat.le_of_ble_eq_true rfl) dX4_init_6 (fun H locs hP hD hS => ?_)
  have hP : va_P D vwCl [(h0, .inr (4, [.int 0, .int 0, .int 0, .null, .null, .null, .null, .null, .null]))] H := hP
  have hD : va_D A [(h0, .inr (4, [.int 0, .int 0, .int 0, .null, .null, .null, .null, .null, .null]))] := hD
  refine lv_aload_n (pc := 9) hx hb dX4_init_9 rfl (lv_at hl 0 rfl) ?_
  refine lv_iconst (pc := 10) (v := 0) hx hb dX4_init_10 (by decide) ?_
  refine va_put (pc := 11) (D := D) (ci := 4) (v := .int 0) (ty := .int) (C := RX4) (T := TX4) (N := 9) hx hb hts (fun w hw => wsU_in (uw_X4 w hw)) tyX4 tyX4_ok nmX4 hown hK hP hD hS 0 rfl rfl 1 (by decide) (hts _ (wsU_in fl_X4_15)) (fun _ h9 => h9) rfl (by decide +kernel) rfl rfl (Nat.le_of_ble_eq_true rfl) dX4_init_11 (fun H locs hP hD hS => ?_)
  have hP : va_P D vwCl [(h0, .inr (4, [.int 0, .int 0, .int 0, .null, .null, .null, .null, .null, .null]))] H := hP
  have hD : va_D A [(h0, .inr (4, [.int 0, .int 0, .int 0, .null, .null, .null, .null, .null, .null]))] := hD
  refine lv_aload_n (pc := 14) hx hb dX4_init_14 rfl (lv_at hl 0 rfl) ?_
  refine lv_iconst (pc := 15) (v := 0) hx hb dX4_init_15 (by decide) ?_
  refine va_put (pc := 16) (D := D) (ci := 4) (v := .int 0) (ty := .int) (C := RX4) (T := TX4) (N := 9) hx hb hts (fun w hw => wsU_in (uw_X4 w hw)) tyX4 tyX4_ok nmX4 hown hK hP hD hS 0 rfl rfl 2 (by decide) (hts _ (wsU_in fl_X4_18)) (fun _ h9 => h9) rfl (by decide +kernel) rfl rfl (Nat.le_of_ble_eq_true rfl) dX4_init_16 (fun H locs hP hD hS => ?_)
  have hP : va_P D vwCl [(h0, .inr (4, [.int 0, .int 0, .int 0, .null, .null, .null, .null, .null, .null]))] H := hP
  have hD : va_D A [(h0, .inr (4, [.int 0, .int 0, .int 0, .null, .null, .null, .null, .null, .null]))] := hD
  refine lv_aload_n (pc := 19) hx hb dX4_init_19 rfl (lv_at hl 0 rfl) ?_
  refine lv_iconst (pc := 20) (v := 5) hx hb dX4_init_20 (by decide) ?_
  refine nwI (pc := 21) hx hb (hts _ (wsU_in arc_int)) hK hP hD hS hA (by decide) (N' := 5) (by decide) (Nat.le_of_ble_eq_true rfl) (Nat.le_of_ble_eq_true rfl) (Nat.le_of_ble_eq_true rfl) dX4_init_21 (fun q1 H hP hD hS => ?_)
  have hP : va_P D vwCl [(h0, .inr (4, [.int 0, .int 0, .int 0, .null, .null, .null, .null, .null, .null])), (q1, .inl (cI, 5, .inl (fun _ => 0)))] H := hP
  have hD : va_D A [(h0, .inr (4, [.int 0, .int 0, .int 0, .null, .null, .null, .null, .null, .null])), (q1, .inl (cI, 5, .inl (fun _ => 0)))] := hD
  refine va_putF (pc := 23) (D := D) (ci := 4) (v := .ref q1) (ty := .array .int) (C := RX4) (T := TX4) (N := 9) hx hb hts (fun w hw => wsU_in (uw_X4 w hw)) tyX4 tyX4_ok nmX4 hown hK hP hD hS 0 rfl rfl 3 (by decide) (hts _ (wsU_in fl_X4_21)) (fun _ h9 => h9) rfl hin rfl (by decide +kernel) rfl rfl (Nat.le_of_ble_eq_true rfl) dX4_init_23 (fun H locs hP hD hS => ?_)
  have hP : va_P D vwCl [(h0, .inr (4, [.int 0, .int 0, .int 0, .ref q1, .null, .null, .null, .null, .null])), (q1, .inl (cI, 5, .inl (fun _ => 0)))] H := hP
  have hD : va_D A [(h0, .inr (4, [.int 0, .int 0, .int 0, .ref q1, .null, .null, .null, .null, .null])), (q1, .inl (cI, 5, .inl (fun _ => 0)))] := hD
  refine lv_aload_n (pc := 26) hx hb dX4_init_26 rfl (lv_at hl 0 rfl) ?_
  refine lv_iconst (pc := 27) (v := 5) hx hb dX4_init_27 (by decide) ?_
  refine nwI (pc := 28) hx hb (hts _ (wsU_in arc_int)) hK hP hD hS hA (by decide) (N' := 5) (by decide) (Nat.le_of_ble_eq_true rfl) (Nat.le_of_ble_eq_true rfl) (Nat.le_of_ble_eq_true rfl) dX4_init_28 (fun q2 H hP hD hS => ?_)
  have hP : va_P D vwCl [(h0, .inr (4, [.int 0, .int 0, .int 0, .ref q1, .null, .null, .null, .null, .null])), (q1, .inl (cI, 5, .inl (fun _ => 0))), (q2, .inl (cI, 5, .inl (fun _ => 0)))] H := hP
  have hD : va_D A [(h0, .inr (4, [.int 0, .int 0, .int 0, .ref q1, .null, .null, .null, .null, .null])), (q1, .inl (cI, 5, .inl (fun _ => 0))), (q2, .inl (cI, 5, .inl (fun _ => 0)))] := hD
  refine va_putF (pc := 30) (D := D) (ci := 4) (v := .ref q2) (ty := .array .int) (C := RX4) (T := TX4) (N := 9) hx hb hts (fun w hw => wsU_in (uw_X4 w hw)) tyX4 tyX4_ok nmX4 hown hK hP hD hS 0 rfl rfl 4 (by decide) (hts _ (wsU_in fl_X4_25)) (fun _ h9 => h9) rfl hin rfl (by decide +kernel) rfl rfl (Nat.le_of_ble_eq_true rfl) dX4_init_30 (fun H locs hP hD hS => ?_)
  have hP : va_P D vwCl [(h0, .inr (4, [.int 0, .int 0, .int 0, .ref q1, .ref q2, .null, .null, .null, .null])), (q1, .inl (cI, 5, .inl (fun _ => 0))), (q2, .inl (cI, 5, .inl (fun _ => 0)))] H := hP
  have hD : va_D A [(h0, .inr (4, [.int 0, .int 0, .int 0, .ref q1, .ref q2, .null, .null, .null, .null])), (q1, .inl (cI, 5, .inl (fun _ => 0))), (q2, .inl (cI, 5, .inl (fun _ => 0)))] := hD
  refine lv_aload_n (pc := 33) hx hb dX4_init_33 rfl (lv_at hl 0 rfl) ?_
  refine lv_bipush (pc := 34) (v := 15) hx hb dX4_init_34 (by decide) ?_
  refine nwI (pc := 36) hx hb (hts _ (wsU_in arc_int)) hK hP hD hS hA (by decide) (N' := 15) (by decide) (Nat.le_of_ble_eq_true rfl) (Nat.le_of_ble_eq_true rfl) (Nat.le_of_ble_eq_true rfl) dX4_init_36 (fun q3 H hP hD hS => ?_)
  have hP : va_P D vwCl [(h0, .inr (4, [.int 0, .int 0, .int 0, .ref q1, .ref q2, .null, .null, .null, .null])), (q1, .inl (cI, 5, .inl (fun _ => 0))), (q2, .inl (cI, 5, .inl (fun _ => 0))), (q3, .inl (cI, 15, .inl (fun _ => 0)))] H := hP
  have hD : va_D A [(h0, .inr (4, [.int 0, .int 0, .int 0, .ref q1, .ref q2, .null, .null, .null, .null])), (q1, .inl (cI, 5, .inl (fun _ => 0))), (q2, .inl (cI, 5, .inl (fun _ => 0))), (q3, .inl (cI, 15, .inl (fun _ => 0)))] := hD
  refine va_putF (pc := 38) (D := D) (ci := 4) (v := .ref q3) (ty := .array .int) (C := RX4) (T := TX4) (N := 9) hx hb hts (fun w hw => wsU_in (uw_X4 w hw)) tyX4 tyX4_ok nmX4 hown hK hP hD hS 0 rfl rfl 5 (by decide) (hts _ (wsU_in fl_X4_28)) (fun _ h9 => h9) rfl hin rfl (by decide +kernel) rfl rfl (Nat.le_of_ble_eq_true rfl) dX4_init_38 (fun H locs hP hD hS => ?_)
  have hP : va_P D vwCl [(h0, .inr (4, [.int 0, .int 0, .int 0, .ref q1, .ref q2, .ref q3, .null, .null, .null])), (q1, .inl (cI, 5, .inl (fun _ => 0))), (q2, .inl (cI, 5, .inl (fun _ => 0))), (q3, .inl (cI, 15, .inl (fun _ => 0)))] H := hP
  have hD : va_D A [(h0, .inr (4, [.int 0, .int 0, .int 0, .ref q1, .ref q2, .ref q3, .null, .null, .null])), (q1, .inl (cI, 5, .inl (fun _ => 0))), (q2, .inl (cI, 5, .inl (fun _ => 0))), (q3, .inl (cI, 15, .inl (fun _ => 0)))] := hD
  refine lv_aload_n (pc := 41) hx hb dX4_init_41 rfl (lv_at hl 0 rfl) ?_
  refine lv_bipush (pc := 42) (v := 15) hx hb dX4_init_42 (by decide) ?_
  refine nwI (pc := 44) hx hb (hts _ (wsU_in arc_int)) hK hP hD hS hA (by decide) (N' := 15) (by decide) (Nat.le_of_ble_eq_true rfl) (Nat.le_of_ble_eq_true rfl) (Nat.le_of_ble_eq_true rfl) dX4_init_44 (fun q4 H hP hD hS => ?_)
  have hP : va_P D vwCl [(h0, .inr (4, [.int 0, .int 0, .int 0, .ref q1, .ref q2, .ref q3, .null, .null, .null])), (q1, .inl (cI, 5, .inl (fun _ => 0))), (q2, .inl (cI, 5, .inl (fun _ => 0))), (q3, .inl (cI, 15, .inl (fun _ => 0))), (q4, .inl (cI, 15, .inl (fun _ => 0)))] H := hP
  have hD : va_D A [(h0, .inr (4, [.int 0, .int 0, .int 0, .ref q1, .ref q2, .ref q3, .null, .null, .null])), (q1, .inl (cI, 5, .inl (fun _ => 0))), (q2, .inl (cI, 5, .inl (fun _ => 0))), (q3, .inl (cI, 15, .inl (fun _ => 0))), (q4, .inl (cI, 15, .inl (fun _ => 0)))] := hD
  refine va_putF (pc := 46) (D := D) (ci := 4) (v := .ref q4) (ty := .array .int) (C := RX4) (T := TX4) (N := 9) hx hb hts (fun w hw => wsU_in (uw_X4 w hw)) tyX4 tyX4_ok nmX4 hown hK hP hD hS 0 rfl rfl 6 (by decide) (hts _ (wsU_in fl_X4_31)) (fun _ h9 => h9) rfl hin rfl (by decide +kernel) rfl rfl (Nat.le_of_ble_eq_true rfl) dX4_init_46 (fun H locs hP hD hS => ?_)
  have hP : va_P D vwCl [(h0, .inr (4, [.int 0, .int 0, .int 0, .ref q1, .ref q2, .ref q3, .ref q4, .null, .null])), (q1, .inl (cI, 5, .inl (fun _ => 0))), (q2, .inl (cI, 5, .inl (fun _ => 0))), (q3, .inl (cI, 15, .inl (fun _ => 0))), (q4, .inl (cI, 15, .inl (fun _ => 0)))] H := hP
  have hD : va_D A [(h0, .inr (4, [.int 0, .int 0, .int 0, .ref q1, .ref q2, .ref q3, .ref q4, .null, .null])), (q1, .inl (cI, 5, .inl (fun _ => 0))), (q2, .inl (cI, 5, .inl (fun _ => 0))), (q3, .inl (cI, 15, .inl (fun _ => 0))), (q4, .inl (cI, 15, .inl (fun _ => 0)))] := hD
  refine lv_aload_n (pc := 49) hx hb dX4_init_49 rfl (lv_at hl 0 rfl) ?_
  refine lv_bipush (pc := 50) (v := 15) hx hb dX4_init_50 (by decide) ?_
  refine nwI (pc := 52) hx hb (hts _ (wsU_in arc_int)) hK hP hD hS hA (by decide) (N' := 15) (by decide) (Nat.le_of_ble_eq_true rfl) (Nat.le_of_ble_eq_true rfl) (Nat.le_of_ble_eq_true rfl) dX4_init_52 (fun q5 H hP hD hS => ?_)
  have hP : va_P D vwCl [(h0, .inr (4, [.int 0, .int 0, .int 0, .ref q1, .ref q2, .ref q3, .ref q4, .null, .null])), (q1, .inl (cI, 5, .inl (fun _ => 0))), (q2, .inl (cI, 5, .inl (fun _ => 0))), (q3, .inl (cI, 15, .inl (fun _ => 0))), (q4, .inl (cI, 15, .inl (fun _ => 0))), (q5, .inl (cI, 15, .inl (fun _ => 0)))] H := hP
  have hD : va_D A [(h0, .inr (4, [.int 0, .int 0, .int 0, .ref q1, .ref q2, .ref q3, .ref q4, .null, .null])), (q1, .inl (cI, 5, .inl (fun _ => 0))), (q2, .inl (cI, 5, .inl (fun _ => 0))), (q3, .inl (cI, 15, .inl (fun _ => 0))), (q4, .inl (cI, 15, .inl (fun _ => 0))), (q5, .inl (cI, 15, .inl (fun _ => 0)))] := hD
  refine va_putF (pc := 54) (D := D) (ci := 4) (v := .ref q5) (ty := .array .int) (C := RX4) (T := TX4) (N := 9) hx hb hts (fun w hw => wsU_in (uw_X4 w hw)) tyX4 tyX4_ok nmX4 hown hK hP hD hS 0 rfl rfl 7 (by decide) (hts _ (wsU_in fl_X4_34)) (fun _ h9 => h9) rfl hin rfl (by decide +kernel) rfl rfl (Nat.le_of_ble_eq_true rfl) dX4_init_54 (fun H locs hP hD hS => ?_)
  have hP : va_P D vwCl [(h0, .inr (4, [.int 0, .int 0, .int 0, .ref q1, .ref q2, .ref q3, .ref q4, .ref q5, .null])), (q1, .inl (cI, 5, .inl (fun _ => 0))), (q2, .inl (cI, 5, .inl (fun _ => 0))), (q3, .inl (cI, 15, .inl (fun _ => 0))), (q4, .inl (cI, 15, .inl (fun _ => 0))), (q5, .inl (cI, 15, .inl (fun _ => 0)))] H := hP
  have hD : va_D A [(h0, .inr (4, [.int 0, .int 0, .int 0, .ref q1, .ref q2, .ref q3, .ref q4, .ref q5, .null])), (q1, .inl (cI, 5, .inl (fun _ => 0))), (q2, .inl (cI, 5, .inl (fun _ => 0))), (q3, .inl (cI, 15, .inl (fun _ => 0))), (q4, .inl (cI, 15, .inl (fun _ => 0))), (q5, .inl (cI, 15, .inl (fun _ => 0)))] := hD
  refine lv_aload_n (pc := 57) hx hb dX4_init_57 rfl (lv_at hl 0 rfl) ?_
  refine lv_bipush (pc := 58) (v := 15) hx hb dX4_init_58 (by decide) ?_
  refine nwL (pc := 60) hx hb (hts _ (wsU_in arc_long)) hK hP hD hS hA (by decide) (N' := 15) (by decide) (Nat.le_of_ble_eq_true rfl) (Nat.le_of_ble_eq_true rfl) (Nat.le_of_ble_eq_true rfl) dX4_init_60 (fun q6 H hP hD hS => ?_)
  have hP : va_P D vwCl [(h0, .inr (4, [.int 0, .int 0, .int 0, .ref q1, .ref q2, .ref q3, .ref q4, .ref q5, .null])), (q1, .inl (cI, 5, .inl (fun _ => 0))), (q2, .inl (cI, 5, .inl (fun _ => 0))), (q3, .inl (cI, 15, .inl (fun _ => 0))), (q4, .inl (cI, 15, .inl (fun _ => 0))), (q5, .inl (cI, 15, .inl (fun _ => 0))), (q6, .inl (cL, 15, .inr (.inl (fun _ => 0))))] H := hP
  have hD : va_D A [(h0, .inr (4, [.int 0, .int 0, .int 0, .ref q1, .ref q2, .ref q3, .ref q4, .ref q5, .null])), (q1, .inl (cI, 5, .inl (fun _ => 0))), (q2, .inl (cI, 5, .inl (fun _ => 0))), (q3, .inl (cI, 15, .inl (fun _ => 0))), (q4, .inl (cI, 15, .inl (fun _ => 0))), (q5, .inl (cI, 15, .inl (fun _ => 0))), (q6, .inl (cL, 15, .inr (.inl (fun _ => 0))))] := hD
  refine va_putF (pc := 62) (D := D) (ci := 4) (v := .ref q6) (ty := .array .long) (C := RX4) (T := TX4) (N := 9) hx hb hts (fun w hw => wsU_in (uw_X4 w hw)) tyX4 tyX4_ok nmX4 hown hK hP hD hS 0 rfl rfl 8 (by decide) (hts _ (wsU_in fl_X4_37)) (fun _ h9 => h9) rfl hin rfl (by decide +kernel) rfl rfl (Nat.le_of_ble_eq_true rfl) dX4_init_62 (fun H locs hP hD hS => ?_)
  have hP : va_P D vwCl [(h0, .inr (4, [.int 0, .int 0, .int 0, .ref q1, .ref q2, .ref q3, .ref q4, .ref q5, .ref q6])), (q1, .inl (cI, 5, .inl (fun _ => 0))), (q2, .inl (cI, 5, .inl (fun _ => 0))), (q3, .inl (cI, 15, .inl (fun _ => 0))), (q4, .inl (cI, 15, .inl (fun _ => 0))), (q5, .inl (cI, 15, .inl (fun _ => 0))), (q6, .inl (cL, 15, .inr (.inl (fun _ => 0))))] H := hP
  have hD : va_D A [(h0, .inr (4, [.int 0, .int 0, .int 0, .ref q1, .ref q2, .ref q3, .ref q4, .ref q5, .ref q6])), (q1, .inl (cI, 5, .inl (fun _ => 0))), (q2, .inl (cI, 5, .inl (fun _ => 0))), (q3, .inl (cI, 15, .inl (fun _ => 0))), (q4, .inl (cI, 15, .inl (fun _ => 0))), (q5, .inl (cI, 15, .inl (fun _ => 0))), (q6, .inl (cL, 15, .inr (.inl (fun _ => 0))))] := hD
  refine W.widen (k := 6) (n := 70) (Nat.le_of_ble_eq_true rfl) (Nat.le_of_ble_eq_true rfl) ?_
  exact W.vret hx hb hr (fun t ht hW => ⟨⟨(q1, q2, q3, q4, q5, q6), rfl, trivial, by rw [ht]; exact hP, hD⟩, hS.F ht⟩) hS.2.2 dX4_init_65
theorem pd_X2_init : yX2_init.cls ≠ "java/lang/invoke/MethodHandle" ∧ yX2_init.cls ≠ "java/lang/invoke/VarHandle" ∧ (parseMethodDescriptor yX2_init.desc).map (fun d => d.parameters.length) = some 0 := by decide +kernel
def rm2_init : Room := { frames := 1, cells := 3, slots := 48, locals := 12 }
set_option maxHeartbeats 8000000 in
set_option maxRecDepth 100000 in
theorem c2_init {l : Launch} (D : va_G) (cI cL : ClassId) (h0 : Nat) (sz : Nat) : Met l yX2_init (wsU yX2_init cX2_init 1 none) rm2_init (va_Pc [.ref h0] (CPre D cI cL [(h0, .inr (2, [.null, .null, .null, .int 0]))] sz)) (va_Qv (fun _ : Nat × Nat × Nat => True) (fun (u : Nat × Nat × Nat) t => va_P D vwCl [(h0, .inr (2, [.ref u.1, .ref u.2.1, .ref u.2.2, .int 0])), (u.1, .inl (cI, 36, .inl (fun _ => 0))), (u.2.1, .inl (cI, 6, .inl (fun _ => 0))), (u.2.2, .inl (cI, 6, .inl (fun _ => 0)))] t.heap ∧ va_D (va_A [(h0, .inr (2, [.null, .null, .null, .int 0]))] sz) [(h0, .inr (2, [.ref u.1, .ref u.2.1, .ref u.2.2, .int 0])), (u.1, .inl (cI, 36, .inl (fun _ => 0))), (u.2.1, .inl (cI, 6, .inl (fun _ => 0))), (u.2.2, .inl (cI, 6, .inl (fun _ => 0)))]) (va_A [(h0, .inr (2, [.null, .null, .null, .int 0]))] sz)) 3 48 (va_A [(h0, .inr (2, [.null, .null, .null, .int 0]))] sz) := by
  refine Met.ofW (cc := cX2_init) (maxL := 1) (ret := none) (by decide +kernel) rfl ?_
  intro p e s m args below meth c s₁ B hml hv
  obtain ⟨rfl, hsz, hP, hK, hD0, hN⟩ := hv
  have hx := B.exec
  have hb := B.bytes
  have hr := B.returns
  have hts := atoms_spec (ws := wsU yX2_init cX2_init 1 none) B.pre
  have hown : s.vm.findClass RX2 = some m.cls := findClass_of_methodNamed B.named
  have hlocks := B.notSynchronized
  have hin : meth.name = "<init>" := (name_of_methodNamed B.named B.method).1
  subst hsz
  have hD := hD0.self (sz := s.heap.size)
  generalize hAe : va_A [(h0, .inr (2, [.null, .null, .null, .int 0]))] s.heap.size = A at hD ⊢
  have hA : ∀ q : Nat, s.heap.size ≤ q → A q := fun q h => by rw [← hAe]; exact Or.inr h
  have hS : va_S A s.heap s.heap [] := va_S.rf
  have hP : va_P D vwCl [(h0, .inr (2, [.null, .null, .null, .int 0]))] s.heap := hP
  have hl := lv_entry ([.ref h0]) (n := 1) (Nat.le_of_ble_eq_true rfl)
  rw [lg_entry_eq]
  generalize (lg_sl ([.ref h0]) ++ List.replicate (1 - (lg_sl ([.ref h0])).length) Slot.unset).toArray = ls at hl ⊢
  have hl : lv_has ls 1 [(0, .ref h0)] := hl
  refine lv_aload_n (pc := 0) hx hb dX2_init_0 rfl (lv_at hl 0 rfl) ?_
  refine W.objInit hx hb hown (hts _ (wsU_in ml_X2_3)) (hts _ (wsU_in oi_inst)) (hts _ (wsU_in oi_code)) rfl (by rw [hml]; exact hl.1) rfl dX2_init_1 (Nat.le_of_ble_eq_true rfl) (Nat.le_of_ble_eq_true rfl) ?_
  refine W.eq (g2 := F0 m 4 ls []) rfl ?_
  refine lv_aload_n (pc := 4) hx hb dX2_init_4 rfl (lv_at hl 0 rfl) ?_
  refine lv_bipush (pc := 5) (v := 36) hx hb dX2_init_5 (by decide) ?_
  refine nwI (pc := 7) hx hb (hts _ (wsU_in arc_int)) hK hP hD hS hA (by decide) (N' := 36) (by decide) (Nat.le_of_ble_eq_true rfl) (Nat.le_of_ble_eq_true rfl) (Nat.le_of_ble_eq_true rfl) dX2_init_7 (fun q1 H hP hD hS => ?_)
  have hP : va_P D vwCl [(h0, .inr (2, [.null, .null, .null, .int 0])), (q1, .inl (cI, 36, .inl (fun _ => 0)))] H := hP
  have hD : va_D A [(h0, .inr (2, [.null, .null, .null, .int 0])), (q1, .inl (cI, 36, .inl (fun _ => 0)))] := hD
  refine va_putF (pc := 9) (D := D) (ci := 2) (v := .ref q1) (ty := .array .int) (C := RX2) (T := TX2) (N := 4) hx hb hts (fun w hw => wsU_in (uw_X2 w hw)) tyX2 tyX2_ok nmX2 hown hK hP hD hS 0 rfl rfl 0 (by decide) (hts _ (wsU_in fl_X2_9)) (fun _ h9 => h9) rfl hin rfl (by decide +kernel) rfl rfl (Nat.le_of_ble_eq_true rfl) dX2_init_9 (fun H locs hP hD hS => ?_)
  have hP : va_P D vwCl [(h0, .inr (2, [.ref q1, .null, .null, .int 0])), (q1, .inl (cI, 36, .inl (fun _ => 0)))] H := hP
  have hD : va_D A [(h0, .inr (2, [.ref q1, .null, .null, .int 0])), (q1, .inl (cI, 36, .inl (fun _ => 0)))] := hD
  refine lv_aload_n (pc := 12) hx hb dX2_init_12 rfl (lv_at hl 0 rfl) ?_
  refine lv_bipush (pc := 13) (v := 6) hx hb dX2_init_13 (by decide) ?_
  refine nwI (pc := 15) hx hb (hts _ (wsU_in arc_int)) hK hP hD hS hA (by decide) (N' := 6) (by decide) (Nat.le_of_ble_eq_true rfl) (Nat.le_of_ble_eq_true rfl) (Nat.le_of_ble_eq_true rfl) dX2_init_15 (fun q2 H hP hD hS => ?_)
  have hP : va_P D vwCl [(h0, .inr (2, [.ref q1, .null, .null, .int 0])), (q1, .inl (cI, 36, .inl (fun _ => 0))), (q2, .inl (cI, 6, .inl (fun _ => 0)))] H := hP
  have hD : va_D A [(h0, .inr (2, [.ref q1, .null, .null, .int 0])), (q1, .inl (cI, 36, .inl (fun _ => 0))), (q2, .inl (cI, 6, .inl (fun _ => 0)))] := hD
  refine va_putF (pc := 17) (D := D) (ci := 2) (v := .ref q2) (ty := .array .int) (C := RX2) (T := TX2) (N := 4) hx hb hts (fun w hw => wsU_in (uw_X2 w hw)) tyX2 tyX2_ok nmX2 hown hK hP hD hS 0 rfl rfl 1 (by decide) (hts _ (wsU_in fl_X2_15)) (fun _ h9 => h9) rfl hin rfl (by decide +kernel) rfl rfl (Nat.le_of_ble_eq_true rfl) dX2_init_17 (fun H locs hP hD hS => ?_)
  have hP : va_P D vwCl [(h0, .inr (2, [.ref q1, .ref q2, .null, .int 0])), (q1, .inl (cI, 36, .inl (fun _ => 0))), (q2, .inl (cI, 6, .inl (fun _ => 0)))] H := hP
  have hD : va_D A [(h0, .inr (2, [.ref q1, .ref q2, .null, .int 0])), (q1, .inl (cI, 36, .inl (fun _ => 0))), (q2, .inl (cI, 6, .inl (fun _ => 0)))] := hD
  refine lv_aload_n (pc := 20) hx hb dX2_init_20 rfl (lv_at hl 0 rfl) ?_
  refine lv_bipush (pc := 21) (v := 6) hx hb dX2_init_21 (by decide) ?_
  refine nwI (pc := 23) hx hb (hts _ (wsU_in arc_int)) hK hP hD hS hA (by decide) (N' := 6) (by decide) (Nat.le_of_ble_eq_true rfl) (Nat.le_of_ble_eq_true rfl) (Nat.le_of_ble_eq_true rfl) dX2_init_23 (fun q3 H hP hD hS => ?_)
  have hP : va_P D vwCl [(h0, .inr (2, [.ref q1, .ref q2, .null, .int 0])), (q1, .inl (cI, 36, .inl (fun _ => 0))), (q2, .inl (cI, 6, .inl (fun _ => 0))), (q3, .inl (cI, 6, .inl (fun _ => 0)))] H := hP
  have hD : va_D A [(h0, .inr (2, [.ref q1, .ref q2, .null, .int 0])), (q1, .inl (cI, 36, .inl (fun _ => 0))), (q2, .inl (cI, 6, .inl (fun _ => 0))), (q3, .inl (cI, 6, .inl (fun _ => 0)))] := hD
  refine va_putF (pc := 25) (D := D) (ci := 2) (v := .ref q3) (ty := .array .int) (C := RX2) (T := TX2) (N := 4) hx hb hts (fun w hw => wsU_in (uw_X2 w hw)) tyX2 tyX2_ok nmX2 hown hK hP hD hS 0 rfl rfl 2 (by decide) (hts _ (wsU_in fl_X2_18)) (fun _ h9 => h9) rfl hin rfl (by decide +kernel) rfl rfl (Nat.le_of_ble_eq_true rfl) dX2_init_25 (fun H locs hP hD hS => ?_)
  have hP : va_P D vwCl [(h0, .inr (2, [.ref q1, .ref q2, .ref q3, .int 0])), (q1, .inl (cI, 36, .inl (fun _ => 0))), (q2, .inl (cI, 6, .inl (fun _ => 0))), (q3, .inl (cI, 6, .inl (fun _ => 0)))] H := hP
  have hD : va_D A [(h0, .inr (2, [.ref q1, .ref q2, .ref q3, .int 0])), (q1, .inl (cI, 36, .inl (fun _ => 0))), (q2, .inl (cI, 6, .inl (fun _ => 0))), (q3, .inl (cI, 6, .inl (fun _ => 0)))] := hD
  refine lv_aload_n (pc := 28) hx hb dX2_init_28 rfl (lv_at hl 0 rfl) ?_
  refine lv_iconst (pc := 29) (v := 0) hx hb dX2_init_29 (by decide) ?_
  refine va_put (pc := 30) (D := D) (ci := 2) (v := .int 0) (ty := .int) (C := RX2) (T := TX2) (N := 4) hx hb hts (fun w hw => wsU_in (uw_X2 w hw)) tyX2 tyX2_ok nmX2 hown hK hP hD hS 0 rfl rfl 3 (by decide) (hts _ (wsU_in fl_X2_21)) (fun _ h9 => h9) rfl (by decide +kernel) rfl rfl (Nat.le_of_ble_eq_true rfl) dX2_init_30 (fun H locs hP hD hS => ?_)
  have hP : va_P D vwCl [(h0, .inr (2, [.ref q1, .ref q2, .ref q3, .int 0])), (q1, .inl (cI, 36, .inl (fun _ => 0))), (q2, .inl (cI, 6, .inl (fun _ => 0))), (q3, .inl (cI, 6, .inl (fun _ => 0)))] H := hP
  have hD : va_D A [(h0, .inr (2, [.ref q1, .ref q2, .ref q3, .int 0])), (q1, .inl (cI, 36, .inl (fun _ => 0))), (q2, .inl (cI, 6, .inl (fun _ => 0))), (q3, .inl (cI, 6, .inl (fun _ => 0)))] := hD
  refine W.widen (k := 3) (n := 48) (Nat.le_of_ble_eq_true rfl) (Nat.le_of_ble_eq_true rfl) ?_
  exact W.vret hx hb hr (fun t ht hW => ⟨⟨(q1, q2, q3), rfl, trivial, by rw [ht]; exact hP, hD⟩, hS.F ht⟩) hS.2.2 dX2_init_33
theorem pd_X6_init : yX6_init.cls ≠ "java/lang/invoke/MethodHandle" ∧ yX6_init.cls ≠ "java/lang/invoke/VarHandle" ∧ (parseMethodDescriptor yX6_init.desc).map (fun d => d.parameters.length) = some 2 := by decide +kernel
def rm6_init : Room := { frames := 1, cells := 0, slots := 0, locals := 12 }
set_option maxHeartbeats 8000000 in
set_option maxRecDepth 100000 in
theorem c6_init {l : Launch} (D : va_G) (cI cL : ClassId) (h0 a1 a2 : Nat) (sz : Nat) : Met l yX6_init (wsU yX6_init cX6_init 3 none) rm6_init (va_Pc [.ref h0, .ref a1, .ref a2] (CPre D cI cL [(h0, .inr (6, [.null, .null, .int 0, .int 0, .int 0, .int 0]))] sz)) (va_Qv (fun _ : Unit => True) (fun (_ : Unit) t => va_P D vwCl [(h0, .inr (6, [.ref a1, .ref a2, .int 0, .int 0, .int 0, .int (-1)]))] t.heap ∧ va_D (va_A [(h0, .inr (6, [.null, .null, .int 0, .int 0, .int 0, .int 0]))] sz) [(h0, .inr (6, [.ref a1, .ref a2, .int 0, .int 0, .int 0, .int (-1)]))]) (va_A [(h0, .inr (6, [.null, .null, .int 0, .int 0, .int 0, .int 0]))] sz)) 0 0 (va_A [(h0, .inr (6, [.null, .null, .int 0, .int 0, .int 0, .int 0]))] sz) := by
  refine Met.ofW (cc := cX6_init) (maxL := 3) (ret := none) (by decide +kernel) rfl ?_
  intro p e s m args below meth c s₁ B hml hv
  obtain ⟨rfl, hsz, hP, hK, hD0, hN⟩ := hv
  have hx := B.exec
  have hb := B.bytes
  have hr := B.returns
  have hts := atoms_spec (ws := wsU yX6_init cX6_init 3 none) B.pre
  have hown : s.vm.findClass RX6 = some m.cls := findClass_of_methodNamed B.named
  have hlocks := B.notSynchronized
  have hin : meth.name = "<init>" := (name_of_methodNamed B.named B.method).1
  subst hsz
  have hD := hD0.self (sz := s.heap.size)
  generalize hAe : va_A [(h0, .inr (6, [.null, .null, .int 0, .int 0, .int 0, .int 0]))] s.heap.size = A at hD ⊢
  have hA : ∀ q : Nat, s.heap.size ≤ q → A q := fun q h => by rw [← hAe]; exact Or.inr h
  have hS : va_S A s.heap s.heap [] := va_S.rf
  have hP : va_P D vwCl [(h0, .inr (6, [.null, .null, .int 0, .int 0, .int 0, .int 0]))] s.heap := hP
  have hl := lv_entry ([.ref h0, .ref a1, .ref a2]) (n := 3) (Nat.le_of_ble_eq_true rfl)
  rw [lg_entry_eq]
  generalize (lg_sl ([.ref h0, .ref a1, .ref a2]) ++ List.replicate (3 - (lg_sl ([.ref h0, .ref a1, .ref a2])).length) Slot.unset).toArray = ls at hl ⊢
  have hl : lv_has ls 3 [(0, .ref h0), (1, .ref a1), (2, .ref a2)] := hl
  refine lv_aload_n (pc := 0) hx hb dX6_init_0 rfl (lv_at hl 0 rfl) ?_
  refine W.objInit hx hb hown (hts _ (wsU_in ml_X6_3)) (hts _ (wsU_in oi_inst)) (hts _ (wsU_in oi_code)) rfl (by rw [hml]; exact hl.1) rfl dX6_init_1 (Nat.le_of_ble_eq_true rfl) (Nat.le_of_ble_eq_true rfl) ?_
  refine W.eq (g2 := F0 m 4 ls []) rfl ?_
  refine lv_aload_n (pc := 4) hx hb dX6_init_4 rfl (lv_at hl 0 rfl) ?_
  refine lv_iconst (pc := 5) (v := 0) hx hb dX6_init_5 (by decide) ?_
  refine va_put (pc := 6) (D := D) (ci := 6) (v := .int 0) (ty := .int) (C := RX6) (T := TX6) (N := 6) hx hb hts (fun w hw => wsU_in (uw_X6 w hw)) tyX6 tyX6_ok nmX6 hown hK hP hD hS 0 rfl rfl 2 (by decide) (hts _ (wsU_in fl_X6_9)) (fun _ h9 => h9) rfl (by decide +kernel) rfl rfl (Nat.le_of_ble_eq_true rfl) dX6_init_6 (fun H locs hP hD hS => ?_)
  have hP : va_P D vwCl [(h0, .inr (6, [.null, .null, .int 0, .int 0, .int 0, .int 0]))] H := hP
  have hD : va_D A [(h0, .inr (6, [.null, .null, .int 0, .int 0, .int 0, .int 0]))] := hD
  refine lv_aload_n (pc := 9) hx hb dX6_init_9 rfl (lv_at hl 0 rfl) ?_
  refine lv_iconst (pc := 10) (v := 0) hx hb dX6_init_10 (by decide) ?_
  refine va_put (pc := 11) (D := D) (ci := 6) (v := .int 0) (ty := .int) (C := RX6) (T := TX6) (N := 6) hx hb hts (fun w hw => wsU_in (uw_X6 w hw)) tyX6 tyX6_ok nmX6 hown hK hP hD hS 0 rfl rfl 3 (by decide) (hts _ (wsU_in fl_X6_15)) (fun _ h9 => h9) rfl (by decide +kernel) rfl rfl (Nat.le_of_ble_eq_true rfl) dX6_init_11 (fun H locs hP hD hS => ?_)
  have hP : va_P D vwCl [(h0, .inr (6, [.null, .null, .int 0, .int 0, .int 0, .int 0]))] H := hP
  have hD : va_D A [(h0, .inr (6, [.null, .null, .int 0, .int 0, .int 0, .int 0]))] := hD
  refine lv_aload_n (pc := 14) hx hb dX6_init_14 rfl (lv_at hl 0 rfl) ?_
  refine lv_iconst (pc := 15) (v := 0) hx hb dX6_init_15 (by decide) ?_
  refine va_put (pc := 16) (D := D) (ci := 6) (v := .int 0) (ty := .int) (C := RX6) (T := TX6) (N := 6) hx hb hts (fun w hw => wsU_in (uw_X6 w hw)) tyX6 tyX6_ok nmX6 hown hK hP hD hS 0 rfl rfl 4 (by decide) (hts _ (wsU_in fl_X6_18)) (fun _ h9 => h9) rfl (by decide +kernel) rfl rfl (Nat.le_of_ble_eq_true rfl) dX6_init_16 (fun H locs hP hD hS => ?_)
  have hP : va_P D vwCl [(h0, .inr (6, [.null, .null, .int 0, .int 0, .int 0, .int 0]))] H := hP
  have hD : va_D A [(h0, .inr (6, [.null, .null, .int 0, .int 0, .int 0, .int 0]))] := hD
  refine lv_aload_n (pc := 19) hx hb dX6_init_19 rfl (lv_at hl 0 rfl) ?_
  refine lv_iconst (pc := 20) (v := (-1)) hx hb dX6_init_20 (by decide) ?_
  refine va_put (pc := 21) (D := D) (ci := 6) (v := .int (-1)) (ty := .int) (C := RX6) (T := TX6) (N := 6) hx hb hts (fun w hw => wsU_in (uw_X6 w hw)) tyX6 tyX6_ok nmX6 hown hK hP hD hS 0 rfl rfl 5 (by decide) (hts _ (wsU_in fl_X6_21)) (fun _ h9 => h9) rfl (by decide +kernel) rfl rfl (Nat.le_of_ble_eq_true rfl) dX6_init_21 (fun H locs hP hD hS => ?_)
  have hP : va_P D vwCl [(h0, .inr (6, [.null, .null, .int 0, .int 0, .int 0, .int (-1)]))] H := hP
  have hD : va_D A [(h0, .inr (6, [.null, .null, .int 0, .int 0, .int 0, .int (-1)]))] := hD
  refine lv_aload_n (pc := 24) hx hb dX6_init_24 rfl (lv_at hl 0 rfl) ?_
  refine lv_aload_n (pc := 25) hx hb dX6_init_25 rfl (lv_at hl 1 rfl) ?_
  refine va_putF (pc := 26) (D := D) (ci := 6) (v := .ref a1) (ty := .array .int) (C := RX6) (T := TX6) (N := 6) hx hb hts (fun w hw => wsU_in (uw_X6 w hw)) tyX6 tyX6_ok nmX6 hown hK hP hD hS 0 rfl rfl 0 (by decide) (hts _ (wsU_in fl_X6_24)) (fun _ h9 => h9) rfl hin rfl (by decide +kernel) rfl rfl (Nat.le_of_ble_eq_true rfl) dX6_init_26 (fun H locs hP hD hS => ?_)
  have hP : va_P D vwCl [(h0, .inr (6, [.ref a1, .null, .int 0, .int 0, .int 0, .int (-1)]))] H := hP
  have hD : va_D A [(h0, .inr (6, [.ref a1, .null, .int 0, .int 0, .int 0, .int (-1)]))] := hD
  refine lv_aload_n (pc := 29) hx hb dX6_init_29 rfl (lv_at hl 0 rfl) ?_
  refine lv_aload_n (pc := 30) hx hb dX6_init_30 rfl (lv_at hl 2 rfl) ?_
  refine va_putF (pc := 31) (D := D) (ci := 6) (v := .ref a2) (ty := .object "JarCouncil$People") (C := RX6) (T := TX6) (N := 6) hx hb hts (fun w hw => wsU_in (uw_X6 w hw)) tyX6 tyX6_ok nmX6 hown hK hP hD hS 0 rfl rfl 1 (by decide) (hts _ (wsU_in fl_X6_28)) (fun _ h9 => h9) rfl hin rfl (by decide +kernel) rfl rfl (Nat.le_of_ble_eq_true rfl) dX6_init_31 (fun H locs hP hD hS => ?_)
  have hP : va_P D vwCl [(h0, .inr (6, [.ref a1, .ref a2, .int 0, .int 0, .int 0, .int (-1)]))] H := hP
  have hD : va_D A [(h0, .inr (6, [.ref a1, .ref a2, .int 0, .int 0, .int 0, .int (-1)]))] := hD
  refine W.widen (k := 0) (n := 0) (Nat.le_of_ble_eq_true rfl) (Nat.le_of_ble_eq_true rfl) ?_
  exact W.vret hx hb hr (fun t ht hW => ⟨⟨(), rfl, trivial, by rw [ht]; exact hP, hD⟩, hS.F ht⟩) hS.2.2 dX6_init_34
theorem pd_X0_init : yX0_init.cls ≠ "java/lang/invoke/MethodHandle" ∧ yX0_init.cls ≠ "java/lang/invoke/VarHandle" ∧ (parseMethodDescriptor yX0_init.desc).map (fun d => d.parameters.length) = some 1 := by decide +kernel
def rm0_init : Room := { frames := 1, cells := 1, slots := 5, locals := 12 }
set_option maxHeartbeats 8000000 in
set_option maxRecDepth 100000 in
theorem c0_init {l : Launch} (D : va_G) (cI cL : ClassId) (h0 a1 : Nat) (sz : Nat) : Met l yX0_init (wsU yX0_init cX0_init 2 none) rm0_init (va_Pc [.ref h0, .ref a1] (CPre D cI cL [(h0, .inr (0, [.null, .null, .int 0, .int 0]))] sz)) (va_Qv (fun _ : Nat => True) (fun (u : Nat) t => va_P D vwCl [(h0, .inr (0, [.ref a1, .ref u, .int 0, .int 0])), (u, .inl (cI, 5, .inl (fun _ => 0)))] t.heap ∧ va_D (va_A [(h0, .inr (0, [.null, .null, .int 0, .int 0]))] sz) [(h0, .inr (0, [.ref a1, .ref u, .int 0, .int 0])), (u, .inl (cI, 5, .inl (fun _ => 0)))]) (va_A [(h0, .inr (0, [.null, .null, .int 0, .int 0]))] sz)) 1 5 (va_A [(h0, .inr (0, [.null, .null, .int 0, .int 0]))] sz) := by
  refine Met.ofW (cc := cX0_init) (maxL := 2) (ret := none) (by decide +kernel) rfl ?_
  intro p e s m args below meth c s₁ B hml hv
  obtain ⟨rfl, hsz, hP, hK, hD0, hN⟩ := hv
  have hx := B.exec
  have hb := B.bytes
  have hr := B.returns
  have hts := atoms_spec (ws := wsU yX0_init cX0_init 2 none) B.pre
  have hown : s.vm.findClass RX0 = some m.cls := findClass_of_methodNamed B.named
  have hlocks := B.notSynchronized
  have hin : meth.name = "<init>" := (name_of_methodNamed B.named B.method).1
  subst hsz
  have hD := hD0.self (sz := s.heap.size)
  generalize hAe : va_A [(h0, .inr (0, [.null, .null, .int 0, .int 0]))] s.heap.size = A at hD ⊢
  have hA : ∀ q : Nat, s.heap.size ≤ q → A q := fun q h => by rw [← hAe]; exact Or.inr h
  have hS : va_S A s.heap s.heap [] := va_S.rf
  have hP : va_P D vwCl [(h0, .inr (0, [.null, .null, .int 0, .int 0]))] s.heap := hP
  have hl := lv_entry ([.ref h0, .ref a1]) (n := 2) (Nat.le_of_ble_eq_true rfl)
  rw [lg_entry_eq]
  generalize (lg_sl ([.ref h0, .ref a1]) ++ List.replicate (2 - (lg_sl ([.ref h0, .ref a1])).length) Slot.unset).toArray = ls at hl ⊢
  have hl : lv_has ls 2 [(0, .ref h0), (1, .ref a1)] := hl
  refine lv_aload_n (pc := 0) hx hb dX0_init_0 rfl (lv_at hl 0 rfl) ?_
  refine W.objInit hx hb hown (hts _ (wsU_in ml_X0_3)) (hts _ (wsU_in oi_inst)) (hts _ (wsU_in oi_code)) rfl (by rw [hml]; exact hl.1) rfl dX0_init_1 (Nat.le_of_ble_eq_true rfl) (Nat.le_of_ble_eq_true rfl) ?_
  refine W.eq (g2 := F0 m 4 ls []) rfl ?_
  refine lv_aload_n (pc := 4) hx hb dX0_init_4 rfl (lv_at hl 0 rfl) ?_
  refine lv_iconst (pc := 5) (v := 5) hx hb dX0_init_5 (by decide) ?_
  refine nwI (pc := 6) hx hb (hts _ (wsU_in arc_int)) hK hP hD hS hA (by decide) (N' := 5) (by decide) (Nat.le_of_ble_eq_true rfl) (Nat.le_of_ble_eq_true rfl) (Nat.le_of_ble_eq_true rfl) dX0_init_6 (fun q1 H hP hD hS => ?_)
  have hP : va_P D vwCl [(h0, .inr (0, [.null, .null, .int 0, .int 0])), (q1, .inl (cI, 5, .inl (fun _ => 0)))] H := hP
  have hD : va_D A [(h0, .inr (0, [.null, .null, .int 0, .int 0])), (q1, .inl (cI, 5, .inl (fun _ => 0)))] := hD
  refine va_putF (pc := 8) (D := D) (ci := 0) (v := .ref q1) (ty := .array .int) (C := RX0) (T := TX0) (N := 4) hx hb hts (fun w hw => wsU_in (uw_X0 w hw)) tyX0 tyX0_ok nmX0 hown hK hP hD hS 0 rfl rfl 1 (by decide) (hts _ (wsU_in fl_X0_9)) (fun _ h9 => h9) rfl hin rfl (by decide +kernel) rfl rfl (Nat.le_of_ble_eq_true rfl) dX0_init_8 (fun H locs hP hD hS => ?_)
  have hP : va_P D vwCl [(h0, .inr (0, [.null, .ref q1, .int 0, .int 0])), (q1, .inl (cI, 5, .inl (fun _ => 0)))] H := hP
  have hD : va_D A [(h0, .inr (0, [.null, .ref q1, .int 0, .int 0])), (q1, .inl (cI, 5, .inl (fun _ => 0)))] := hD
  refine lv_aload_n (pc := 11) hx hb dX0_init_11 rfl (lv_at hl 0 rfl) ?_
  refine lv_iconst (pc := 12) (v := 0) hx hb dX0_init_12 (by decide) ?_
  refine va_put (pc := 13) (D := D) (ci := 0) (v := .int 0) (ty := .int) (C := RX0) (T := TX0) (N := 4) hx hb hts (fun w hw => wsU_in (uw_X0 w hw)) tyX0 tyX0_ok nmX0 hown hK hP hD hS 0 rfl rfl 2 (by decide) (hts _ (wsU_in fl_X0_15)) (fun _ h9 => h9) rfl (by decide +kernel) rfl rfl (Nat.le_of_ble_eq_true rfl) dX0_init_13 (fun H locs hP hD hS => ?_)
  have hP : va_P D vwCl [(h0, .inr (0, [.null, .ref q1, .int 0, .int 0])), (q1, .inl (cI, 5, .inl (fun _ => 0)))] H := hP
  have hD : va_D A [(h0, .inr (0, [.null, .ref q1, .int 0, .int 0])), (q1, .inl (cI, 5, .inl (fun _ => 0)))] := hD
  refine lv_aload_n (pc := 16) hx hb dX0_init_16 rfl (lv_at hl 0 rfl) ?_
  refine lv_iconst (pc := 17) (v := 0) hx hb dX0_init_17 (by decide) ?_
  refine va_put (pc := 18) (D := D) (ci := 0) (v := .int 0) (ty := .int) (C := RX0) (T := TX0) (N := 4) hx hb hts (fun w hw => wsU_in (uw_X0 w hw)) tyX0 tyX0_ok nmX0 hown hK hP hD hS 0 rfl rfl 3 (by decide) (hts _ (wsU_in fl_X0_19)) (fun _ h9 => h9) rfl (by decide +kernel) rfl rfl (Nat.le_of_ble_eq_true rfl) dX0_init_18 (fun H locs hP hD hS => ?_)
  have hP : va_P D vwCl [(h0, .inr (0, [.null, .ref q1, .int 0, .int 0])), (q1, .inl (cI, 5, .inl (fun _ => 0)))] H := hP
  have hD : va_D A [(h0, .inr (0, [.null, .ref q1, .int 0, .int 0])), (q1, .inl (cI, 5, .inl (fun _ => 0)))] := hD
  refine lv_aload_n (pc := 21) hx hb dX0_init_21 rfl (lv_at hl 0 rfl) ?_
  refine lv_aload_n (pc := 22) hx hb dX0_init_22 rfl (lv_at hl 1 rfl) ?_
  refine va_putF (pc := 23) (D := D) (ci := 0) (v := .ref a1) (ty := .object "JarCouncil$People") (C := RX0) (T := TX0) (N := 4) hx hb hts (fun w hw => wsU_in (uw_X0 w hw)) tyX0 tyX0_ok nmX0 hown hK hP hD hS 0 rfl rfl 0 (by decide) (hts _ (wsU_in fl_X0_22)) (fun _ h9 => h9) rfl hin rfl (by decide +kernel) rfl rfl (Nat.le_of_ble_eq_true rfl) dX0_init_23 (fun H locs hP hD hS => ?_)
  have hP : va_P D vwCl [(h0, .inr (0, [.ref a1, .ref q1, .int 0, .int 0])), (q1, .inl (cI, 5, .inl (fun _ => 0)))] H := hP
  have hD : va_D A [(h0, .inr (0, [.ref a1, .ref q1, .int 0, .int 0])), (q1, .inl (cI, 5, .inl (fun _ => 0)))] := hD
  refine W.widen (k := 1) (n := 5) (Nat.le_of_ble_eq_true rfl) (Nat.le_of_ble_eq_true rfl) ?_
  exact W.vret hx hb hr (fun t ht hW => ⟨⟨(q1), rfl, trivial, by rw [ht]; exact hP, hD⟩, hS.F ht⟩) hS.2.2 dX0_init_26
theorem pd_X5_init : yX5_init.cls ≠ "java/lang/invoke/MethodHandle" ∧ yX5_init.cls ≠ "java/lang/invoke/VarHandle" ∧ (parseMethodDescriptor yX5_init.desc).map (fun d => d.parameters.length) = some 1 := by decide +kernel
def rm5_init : Room := { frames := 1, cells := 4, slots := 2400, locals := 12 }
set_option maxHeartbeats 8000000 in
set_option maxRecDepth 100000 in
theorem c5_init {l : Launch} (D : va_G) (cI cL : ClassId) (h0 a1 a2 a3 : Nat) (sz : Nat) : Met l yX5_init (wsU yX5_init cX5_init 2 none) rm5_init (va_Pc [.ref h0, .ref a1] (CPre D cI cL [(h0, .inr (5, [.null, .null, .null, .null, .null, .int 0, .null, .int 0, .int 0])), (a1, .inr (0, [.ref a2, .ref a3, .int 0, .int 0]))] sz)) (va_Qv (fun _ : Nat × Nat × Nat × Nat => True) (fun (u : Nat × Nat × Nat × Nat) t => va_P D vwCl [(h0, .inr (5, [.ref a1, .ref a2, .ref u.1, .ref u.2.1, .ref u.2.2.1, .int 0, .ref u.2.2.2, .int 0, .int 0])), (a1, .inr (0, [.ref a2, .ref a3, .int 0, .int 0])), (u.1, .inl (cI, 600, .inl (fun _ => 0))), (u.2.1, .inl (cL, 600, .inr (.inl (fun _ => 0)))), (u.2.2.1, .inl (cI, 600, .inl (fun _ => 0))), (u.2.2.2, .inl (cI, 600, .inl (fun _ => 0)))] t.heap ∧ va_D (va_A [(h0, .inr (5, [.null, .null, .null, .null, .null, .int 0, .null, .int 0, .int 0])), (a1, .inr (0, [.ref a2, .ref a3, .int 0, .int 0]))] sz) [(h0, .inr (5, [.ref a1, .ref a2, .ref u.1, .ref u.2.1, .ref u.2.2.1, .int 0, .ref u.2.2.2, .int 0, .int 0])), (a1, .inr (0, [.ref a2, .ref a3, .int 0, .int 0])), (u.1, .inl (cI, 600, .inl (fun _ => 0))), (u.2.1, .inl (cL, 600, .inr (.inl (fun _ => 0)))), (u.2.2.1, .inl (cI, 600, .inl (fun _ => 0))), (u.2.2.2, .inl (cI, 600, .inl (fun _ => 0)))]) (va_A [(h0, .inr (5, [.null, .null, .null, .null, .null, .int 0, .null, .int 0, .int 0])), (a1, .inr (0, [.ref a2, .ref a3, .int 0, .int 0]))] sz)) 4 2400 (va_A [(h0, .inr (5, [.null, .null, .null, .null, .null, .int 0, .null, .int 0, .int 0])), (a1, .inr (0, [.ref a2, .ref a3, .int 0, .int 0]))] sz) := by
  refine Met.ofW (cc := cX5_init) (maxL := 2) (ret := none) (by decide +kernel) rfl ?_
  intro p e s m args below meth c s₁ B hml hv
  obtain ⟨rfl, hsz, hP, hK, hD0, hN⟩ := hv
  have hx := B.exec
  have hb := B.bytes
  have hr := B.returns
  have hts := atoms_spec (ws := wsU yX5_init cX5_init 2 none) B.pre
  have hown : s.vm.findClass RX5 = some m.cls := findClass_of_methodNamed B.named
  have hlocks := B.notSynchronized
  have hin : meth.name = "<init>" := (name_of_methodNamed B.named B.method).1
  subst hsz
  have hD := hD0.self (sz := s.heap.size)
  generalize hAe : va_A [(h0, .inr (5, [.null, .null, .null, .null, .null, .int 0, .null, .int 0, .int 0])), (a1, .inr (0, [.ref a2, .ref a3, .int 0, .int 0]))] s.heap.size = A at hD ⊢
  have hA : ∀ q : Nat, s.heap.size ≤ q → A q := fun q h => by rw [← hAe]; exact Or.inr h
  have hS : va_S A s.heap s.heap [] := va_S.rf
  have hP : va_P D vwCl [(h0, .inr (5, [.null, .null, .null, .null, .null, .int 0, .null, .int 0, .int 0])), (a1, .inr (0, [.ref a2, .ref a3, .int 0, .int 0]))] s.heap := hP
  have hl := lv_entry ([.ref h0, .ref a1]) (n := 2) (Nat.le_of_ble_eq_true rfl)
  rw [lg_entry_eq]
  generalize (lg_sl ([.ref h0, .ref a1]) ++ List.replicate (2 - (lg_sl ([.ref h0, .ref a1])).length) Slot.unset).toArray = ls at hl ⊢
  have hl : lv_has ls 2 [(0, .ref h0), (1, .ref a1)] := hl
  refine lv_aload_n (pc := 0) hx hb dX5_init_0 rfl (lv_at hl 0 rfl) ?_
  refine W.objInit hx hb hown (hts _ (wsU_in ml_X5_5)) (hts _ (wsU_in oi_inst)) (hts _ (wsU_in oi_code)) rfl (by rw [hml]; exact hl.1) rfl dX5_init_1 (Nat.le_of_ble_eq_true rfl) (Nat.le_of_ble_eq_true rfl) ?_
  refine W.eq (g2 := F0 m 4 ls []) rfl ?_
  refine lv_aload_n (pc := 4) hx hb dX5_init_4 rfl (lv_at hl 0 rfl) ?_
  refine lv_sipush (pc := 5) (v := 600) hx hb dX5_init_5 (by decide) ?_
  refine nwI (pc := 8) hx hb (hts _ (wsU_in arc_int)) hK hP hD hS hA (by decide) (N' := 600) (by decide) (Nat.le_of_ble_eq_true rfl) (Nat.le_of_ble_eq_true rfl) (Nat.le_of_ble_eq_true rfl) dX5_init_8 (fun q1 H hP hD hS => ?_)
  have hP : va_P D vwCl [(h0, .inr (5, [.null, .null, .null, .null, .null, .int 0, .null, .int 0, .int 0])), (a1, .inr (0, [.ref a2, .ref a3, .int 0, .int 0])), (q1, .inl (cI, 600, .inl (fun _ => 0)))] H := hP
  have hD : va_D A [(h0, .inr (5, [.null, .null, .null, .null, .null, .int 0, .null, .int 0, .int 0])), (a1, .inr (0, [.ref a2, .ref a3, .int 0, .int 0])), (q1, .inl (cI, 600, .inl (fun _ => 0)))] := hD
  refine va_putF (pc := 10) (D := D) (ci := 5) (v := .ref q1) (ty := .array .int) (C := RX5) (T := TX5) (N := 9) hx hb hts (fun w hw => wsU_in (uw_X5 w hw)) tyX5 tyX5_ok nmX5 hown hK hP hD hS 0 rfl rfl 2 (by decide) (hts _ (wsU_in fl_X5_11)) (fun _ h9 => h9) rfl hin rfl (by decide +kernel) rfl rfl (Nat.le_of_ble_eq_true rfl) dX5_init_10 (fun H locs hP hD hS => ?_)
  have hP : va_P D vwCl [(h0, .inr (5, [.null, .null, .ref q1, .null, .null, .int 0, .null, .int 0, .int 0])), (a1, .inr (0, [.ref a2, .ref a3, .int 0, .int 0])), (q1, .inl (cI, 600, .inl (fun _ => 0)))] H := hP
  have hD : va_D A [(h0, .inr (5, [.null, .null, .ref q1, .null, .null, .int 0, .null, .int 0, .int 0])), (a1, .inr (0, [.ref a2, .ref a3, .int 0, .int 0])), (q1, .inl (cI, 600, .inl (fun _ => 0)))] := hD
  refine lv_aload_n (pc := 13) hx hb dX5_init_13 rfl (lv_at hl 0 rfl) ?_
  refine lv_sipush (pc := 14) (v := 600) hx hb dX5_init_14 (by decide) ?_
  refine nwL (pc := 17) hx hb (hts _ (wsU_in arc_long)) hK hP hD hS hA (by decide) (N' := 600) (by decide) (Nat.le_of_ble_eq_true rfl) (Nat.le_of_ble_eq_true rfl) (Nat.le_of_ble_eq_true rfl) dX5_init_17 (fun q2 H hP hD hS => ?_)
  have hP : va_P D vwCl [(h0, .inr (5, [.null, .null, .ref q1, .null, .null, .int 0, .null, .int 0, .int 0])), (a1, .inr (0, [.ref a2, .ref a3, .int 0, .int 0])), (q1, .inl (cI, 600, .inl (fun _ => 0))), (q2, .inl (cL, 600, .inr (.inl (fun _ => 0))))] H := hP
  have hD : va_D A [(h0, .inr (5, [.null, .null, .ref q1, .null, .null, .int 0, .null, .int 0, .int 0])), (a1, .inr (0, [.ref a2, .ref a3, .int 0, .int 0])), (q1, .inl (cI, 600, .inl (fun _ => 0))), (q2, .inl (cL, 600, .inr (.inl (fun _ => 0))))] := hD
  refine va_putF (pc := 19) (D := D) (ci := 5) (v := .ref q2) (ty := .array .long) (C := RX5) (T := TX5) (N := 9) hx hb hts (fun w hw => wsU_in (uw_X5 w hw)) tyX5 tyX5_ok nmX5 hown hK hP hD hS 0 rfl rfl 3 (by decide) (hts _ (wsU_in fl_X5_15)) (fun _ h9 => h9) rfl hin rfl (by decide +kernel) rfl rfl (Nat.le_of_ble_eq_true rfl) dX5_init_19 (fun H locs hP hD hS => ?_)
  have hP : va_P D vwCl [(h0, .inr (5, [.null, .null, .ref q1, .ref q2, .null, .int 0, .null, .int 0, .int 0])), (a1, .inr (0, [.ref a2, .ref a3, .int 0, .int 0])), (q1, .inl (cI, 600, .inl (fun _ => 0))), (q2, .inl (cL, 600, .inr (.inl (fun _ => 0))))] H := hP
  have hD : va_D A [(h0, .inr (5, [.null, .null, .ref q1, .ref q2, .null, .int 0, .null, .int 0, .int 0])), (a1, .inr (0, [.ref a2, .ref a3, .int 0, .int 0])), (q1, .inl (cI, 600, .inl (fun _ => 0))), (q2, .inl (cL, 600, .inr (.inl (fun _ => 0))))] := hD
  refine lv_aload_n (pc := 22) hx hb dX5_init_22 rfl (lv_at hl 0 rfl) ?_
  refine lv_sipush (pc := 23) (v := 600) hx hb dX5_init_23 (by decide) ?_
  refine nwI (pc := 26) hx hb (hts _ (wsU_in arc_int)) hK hP hD hS hA (by decide) (N' := 600) (by decide) (Nat.le_of_ble_eq_true rfl) (Nat.le_of_ble_eq_true rfl) (Nat.le_of_ble_eq_true rfl) dX5_init_26 (fun q3 H hP hD hS => ?_)
  have hP : va_P D vwCl [(h0, .inr (5, [.null, .null, .ref q1, .ref q2, .null, .int 0, .null, .int 0, .int 0])), (a1, .inr (0, [.ref a2, .ref a3, .int 0, .int 0])), (q1, .inl (cI, 600, .inl (fun _ => 0))), (q2, .inl (cL, 600, .inr (.inl (fun _ => 0)))), (q3, .inl (cI, 600, .inl (fun _ => 0)))] H := hP
  have hD : va_D A [(h0, .inr (5, [.null, .null, .ref q1, .ref q2, .null, .int 0, .null, .int 0, .int 0])), (a1, .inr (0, [.ref a2, .ref a3, .int 0, .int 0])), (q1, .inl (cI, 600, .inl (fun _ => 0))), (q2, .inl (cL, 600, .inr (.inl (fun _ => 0)))), (q3, .inl (cI, 600, .inl (fun _ => 0)))] := hD
  refine va_putF (pc := 28) (D := D) (ci := 5) (v := .ref q3) (ty := .array .int) (C := RX5) (T := TX5) (N := 9) hx hb hts (fun w hw => wsU_in (uw_X5 w hw)) tyX5 tyX5_ok nmX5 hown hK hP hD hS 0 rfl rfl 4 (by decide) (hts _ (wsU_in fl_X5_19)) (fun _ h9 => h9) rfl hin rfl (by decide +kernel) rfl rfl (Nat.le_of_ble_eq_true rfl) dX5_init_28 (fun H locs hP hD hS => ?_)
  have hP : va_P D vwCl [(h0, .inr (5, [.null, .null, .ref q1, .ref q2, .ref q3, .int 0, .null, .int 0, .int 0])), (a1, .inr (0, [.ref a2, .ref a3, .int 0, .int 0])), (q1, .inl (cI, 600, .inl (fun _ => 0))), (q2, .inl (cL, 600, .inr (.inl (fun _ => 0)))), (q3, .inl (cI, 600, .inl (fun _ => 0)))] H := hP
  have hD : va_D A [(h0, .inr (5, [.null, .null, .ref q1, .ref q2, .ref q3, .int 0, .null, .int 0, .int 0])), (a1, .inr (0, [.ref a2, .ref a3, .int 0, .int 0])), (q1, .inl (cI, 600, .inl (fun _ => 0))), (q2, .inl (cL, 600, .inr (.inl (fun _ => 0)))), (q3, .inl (cI, 600, .inl (fun _ => 0)))] := hD
  refine lv_aload_n (pc := 31) hx hb dX5_init_31 rfl (lv_at hl 0 rfl) ?_
  refine lv_iconst (pc := 32) (v := 0) hx hb dX5_init_32 (by decide) ?_
  refine va_put (pc := 33) (D := D) (ci := 5) (v := .int 0) (ty := .int) (C := RX5) (T := TX5) (N := 9) hx hb hts (fun w hw => wsU_in (uw_X5 w hw)) tyX5 tyX5_ok nmX5 hown hK hP hD hS 0 rfl rfl 5 (by decide) (hts _ (wsU_in fl_X5_22)) (fun _ h9 => h9) rfl (by decide +kernel) rfl rfl (Nat.le_of_ble_eq_true rfl) dX5_init_33 (fun H locs hP hD hS => ?_)
  have hP : va_P D vwCl [(h0, .inr (5, [.null, .null, .ref q1, .ref q2, .ref q3, .int 0, .null, .int 0, .int 0])), (a1, .inr (0, [.ref a2, .ref a3, .int 0, .int 0])), (q1, .inl (cI, 600, .inl (fun _ => 0))), (q2, .inl (cL, 600, .inr (.inl (fun _ => 0)))), (q3, .inl (cI, 600, .inl (fun _ => 0)))] H := hP
  have hD : va_D A [(h0, .inr (5, [.null, .null, .ref q1, .ref q2, .ref q3, .int 0, .null, .int 0, .int 0])), (a1, .inr (0, [.ref a2, .ref a3, .int 0, .int 0])), (q1, .inl (cI, 600, .inl (fun _ => 0))), (q2, .inl (cL, 600, .inr (.inl (fun _ => 0)))), (q3, .inl (cI, 600, .inl (fun _ => 0)))] := hD
  refine lv_aload_n (pc := 36) hx hb dX5_init_36 rfl (lv_at hl 0 rfl) ?_
  refine lv_sipush (pc := 37) (v := 600) hx hb dX5_init_37 (by decide) ?_
  refine nwI (pc := 40) hx hb (hts _ (wsU_in arc_int)) hK hP hD hS hA (by decide) (N' := 600) (by decide) (Nat.le_of_ble_eq_true rfl) (Nat.le_of_ble_eq_true rfl) (Nat.le_of_ble_eq_true rfl) dX5_init_40 (fun q4 H hP hD hS => ?_)
  have hP : va_P D vwCl [(h0, .inr (5, [.null, .null, .ref q1, .ref q2, .ref q3, .int 0, .null, .int 0, .int 0])), (a1, .inr (0, [.ref a2, .ref a3, .int 0, .int 0])), (q1, .inl (cI, 600, .inl (fun _ => 0))), (q2, .inl (cL, 600, .inr (.inl (fun _ => 0)))), (q3, .inl (cI, 600, .inl (fun _ => 0))), (q4, .inl (cI, 600, .inl (fun _ => 0)))] H := hP
  have hD : va_D A [(h0, .inr (5, [.null, .null, .ref q1, .ref q2, .ref q3, .int 0, .null, .int 0, .int 0])), (a1, .inr (0, [.ref a2, .ref a3, .int 0, .int 0])), (q1, .inl (cI, 600, .inl (fun _ => 0))), (q2, .inl (cL, 600, .inr (.inl (fun _ => 0)))), (q3, .inl (cI, 600, .inl (fun _ => 0))), (q4, .inl (cI, 600, .inl (fun _ => 0)))] := hD
  refine va_putF (pc := 42) (D := D) (ci := 5) (v := .ref q4) (ty := .array .int) (C := RX5) (T := TX5) (N := 9) hx hb hts (fun w hw => wsU_in (uw_X5 w hw)) tyX5 tyX5_ok nmX5 hown hK hP hD hS 0 rfl rfl 6 (by decide) (hts _ (wsU_in fl_X5_26)) (fun _ h9 => h9) rfl hin rfl (by decide +kernel) rfl rfl (Nat.le_of_ble_eq_true rfl) dX5_init_42 (fun H locs hP hD hS => ?_)
  have hP : va_P D vwCl [(h0, .inr (5, [.null, .null, .ref q1, .ref q2, .ref q3, .int 0, .ref q4, .int 0, .int 0])), (a1, .inr (0, [.ref a2, .ref a3, .int 0, .int 0])), (q1, .inl (cI, 600, .inl (fun _ => 0))), (q2, .inl (cL, 600, .inr (.inl (fun _ => 0)))), (q3, .inl (cI, 600, .inl (fun _ => 0))), (q4, .inl (cI, 600, .inl (fun _ => 0)))] H := hP
  have hD : va_D A [(h0, .inr (5, [.null, .null, .ref q1, .ref q2, .ref q3, .int 0, .ref q4, .int 0, .int 0])), (a1, .inr (0, [.ref a2, .ref a3, .int 0, .int 0])), (q1, .inl (cI, 600, .inl (fun _ => 0))), (q2, .inl (cL, 600, .inr (.inl (fun _ => 0)))), (q3, .inl (cI, 600, .inl (fun _ => 0))), (q4, .inl (cI, 600, .inl (fun _ => 0)))] := hD
  refine lv_aload_n (pc := 45) hx hb dX5_init_45 rfl (lv_at hl 0 rfl) ?_
  refine lv_iconst (pc := 46) (v := 0) hx hb dX5_init_46 (by decide) ?_
  refine va_put (pc := 47) (D := D) (ci := 5) (v := .int 0) (ty := .int) (C := RX5) (T := TX5) (N := 9) hx hb hts (fun w hw => wsU_in (uw_X5 w hw)) tyX5 tyX5_ok nmX5 hown hK hP hD hS 0 rfl rfl 7 (by decide) (hts _ (wsU_in fl_X5_29)) (fun _ h9 => h9) rfl (by decide +kernel) rfl rfl (Nat.le_of_ble_eq_true rfl) dX5_init_47 (fun H locs hP hD hS => ?_)
  have hP : va_P D vwCl [(h0, .inr (5, [.null, .null, .ref q1, .ref q2, .ref q3, .int 0, .ref q4, .int 0, .int 0])), (a1, .inr (0, [.ref a2, .ref a3, .int 0, .int 0])), (q1, .inl (cI, 600, .inl (fun _ => 0))), (q2, .inl (cL, 600, .inr (.inl (fun _ => 0)))), (q3, .inl (cI, 600, .inl (fun _ => 0))), (q4, .inl (cI, 600, .inl (fun _ => 0)))] H := hP
  have hD : va_D A [(h0, .inr (5, [.null, .null, .ref q1, .ref q2, .ref q3, .int 0, .ref q4, .int 0, .int 0])), (a1, .inr (0, [.ref a2, .ref a3, .int 0, .int 0])), (q1, .inl (cI, 600, .inl (fun _ => 0))), (q2, .inl (cL, 600, .inr (.inl (fun _ => 0)))), (q3, .inl (cI, 600, .inl (fun _ => 0))), (q4, .inl (cI, 600, .inl (fun _ => 0)))] := hD
  refine lv_aload_n (pc := 50) hx hb dX5_init_50 rfl (lv_at hl 0 rfl) ?_
  refine lv_iconst (pc := 51) (v := 0) hx hb dX5_init_51 (by decide) ?_
  refine va_put (pc := 52) (D := D) (ci := 5) (v := .int 0) (ty := .int) (C := RX5) (T := TX5) (N := 9) hx hb hts (fun w hw => wsU_in (uw_X5 w hw)) tyX5 tyX5_ok nmX5 hown hK hP hD hS 0 rfl rfl 8 (by decide) (hts _ (wsU_in fl_X5_32)) (fun _ h9 => h9) rfl (by decide +kernel) rfl rfl (Nat.le_of_ble_eq_true rfl) dX5_init_52 (fun H locs hP hD hS => ?_)
  have hP : va_P D vwCl [(h0, .inr (5, [.null, .null, .ref q1, .ref q2, .ref q3, .int 0, .ref q4, .int 0, .int 0])), (a1, .inr (0, [.ref a2, .ref a3, .int 0, .int 0])), (q1, .inl (cI, 600, .inl (fun _ => 0))), (q2, .inl (cL, 600, .inr (.inl (fun _ => 0)))), (q3, .inl (cI, 600, .inl (fun _ => 0))), (q4, .inl (cI, 600, .inl (fun _ => 0)))] H := hP
  have hD : va_D A [(h0, .inr (5, [.null, .null, .ref q1, .ref q2, .ref q3, .int 0, .ref q4, .int 0, .int 0])), (a1, .inr (0, [.ref a2, .ref a3, .int 0, .int 0])), (q1, .inl (cI, 600, .inl (fun _ => 0))), (q2, .inl (cL, 600, .inr (.inl (fun _ => 0)))), (q3, .inl (cI, 600, .inl (fun _ => 0))), (q4, .inl (cI, 600, .inl (fun _ => 0)))] := hD
  refine lv_aload_n (pc := 55) hx hb dX5_init_55 rfl (lv_at hl 0 rfl) ?_
  refine lv_aload_n (pc := 56) hx hb dX5_init_56 rfl (lv_at hl 1 rfl) ?_
  refine va_putF (pc := 57) (D := D) (ci := 5) (v := .ref a1) (ty := .object "JarCouncil$Course") (C := RX5) (T := TX5) (N := 9) hx hb hts (fun w hw => wsU_in (uw_X5 w hw)) tyX5 tyX5_ok nmX5 hown hK hP hD hS 0 rfl rfl 0 (by decide) (hts _ (wsU_in fl_X5_35)) (fun _ h9 => h9) rfl hin rfl (by decide +kernel) rfl rfl (Nat.le_of_ble_eq_true rfl) dX5_init_57 (fun H locs hP hD hS => ?_)
  have hP : va_P D vwCl [(h0, .inr (5, [.ref a1, .null, .ref q1, .ref q2, .ref q3, .int 0, .ref q4, .int 0, .int 0])), (a1, .inr (0, [.ref a2, .ref a3, .int 0, .int 0])), (q1, .inl (cI, 600, .inl (fun _ => 0))), (q2, .inl (cL, 600, .inr (.inl (fun _ => 0)))), (q3, .inl (cI, 600, .inl (fun _ => 0))), (q4, .inl (cI, 600, .inl (fun _ => 0)))] H := hP
  have hD : va_D A [(h0, .inr (5, [.ref a1, .null, .ref q1, .ref q2, .ref q3, .int 0, .ref q4, .int 0, .int 0])), (a1, .inr (0, [.ref a2, .ref a3, .int 0, .int 0])), (q1, .inl (cI, 600, .inl (fun _ => 0))), (q2, .inl (cL, 600, .inr (.inl (fun _ => 0)))), (q3, .inl (cI, 600, .inl (fun _ => 0))), (q4, .inl (cI, 600, .inl (fun _ => 0)))] := hD
  refine lv_aload_n (pc := 60) hx hb dX5_init_60 rfl (lv_at hl 0 rfl) ?_
  refine lv_aload_n (pc := 61) hx hb dX5_init_61 rfl (lv_at hl 1 rfl) ?_
  refine va_getN (pc := 62) (D := D) (ci := 0) (v := .ref a2) (C := RX0) (T := TX0) (N := 4) hx hb hts (fun w hw => wsU_in (uw_X0 w hw)) hown hK hP 1 rfl rfl 0 (by decide) (va_Nw.use rfl (hN _ fn_X5_39 rfl)) (fun _ h9 => h9) rfl dX5_init_62 ?_
  refine va_putF (pc := 65) (D := D) (ci := 5) (v := .ref a2) (ty := .object "JarCouncil$People") (C := RX5) (T := TX5) (N := 9) hx hb hts (fun w hw => wsU_in (uw_X5 w hw)) tyX5 tyX5_ok nmX5 hown hK hP hD hS 0 rfl rfl 1 (by decide) (hts _ (wsU_in fl_X5_45)) (fun _ h9 => h9) rfl hin rfl (by decide +kernel) rfl rfl (Nat.le_of_ble_eq_true rfl) dX5_init_65 (fun H locs hP hD hS => ?_)
  have hP : va_P D vwCl [(h0, .inr (5, [.ref a1, .ref a2, .ref q1, .ref q2, .ref q3, .int 0, .ref q4, .int 0, .int 0])), (a1, .inr (0, [.ref a2, .ref a3, .int 0, .int 0])), (q1, .inl (cI, 600, .inl (fun _ => 0))), (q2, .inl (cL, 600, .inr (.inl (fun _ => 0)))), (q3, .inl (cI, 600, .inl (fun _ => 0))), (q4, .inl (cI, 600, .inl (fun _ => 0)))] H := hP
  have hD : va_D A [(h0, .inr (5, [.ref a1, .ref a2, .ref q1, .ref q2, .ref q3, .int 0, .ref q4, .int 0, .int 0])), (a1, .inr (0, [.ref a2, .ref a3, .int 0, .int 0])), (q1, .inl (cI, 600, .inl (fun _ => 0))), (q2, .inl (cL, 600, .inr (.inl (fun _ => 0)))), (q3, .inl (cI, 600, .inl (fun _ => 0))), (q4, .inl (cI, 600, .inl (fun _ => 0)))] := hD
  refine W.widen (k := 4) (n := 2400) (Nat.le_of_ble_eq_true rfl) (Nat.le_of_ble_eq_true rfl) ?_
  exact W.vret hx hb hr (fun t ht hW => ⟨⟨(q1, q2, q3, q4), rfl, trivial, by rw [ht]; exact hP, hD⟩, hS.F ht⟩) hS.2.2 dX5_init_68
theorem pd_X1_init : yX1_init.cls ≠ "java/lang/invoke/MethodHandle" ∧ yX1_init.cls ≠ "java/lang/invoke/VarHandle" ∧ (parseMethodDescriptor yX1_init.desc).map (fun d => d.parameters.length) = some 1 := by decide +kernel
def rm1_init : Room := { frames := 1, cells := 2, slots := 12, locals := 12 }
set_option maxHeartbeats 8000000 in
set_option maxRecDepth 100000 in
theorem c1_init {l : Launch} (D : va_G) (cI cL : ClassId) (h0 a1 a2 a3 a4 a5 a6 a7 a8 a9 : Nat) (sz : Nat) : Met l yX1_init (wsU yX1_init cX1_init 2 none) rm1_init (va_Pc [.ref h0, .ref a1] (CPre D cI cL [(h0, .inr (1, [.null, .null, .null, .null, .null, .int 0, .int 0, .int 0, .int 0, .long 0])), (a1, .inr (5, [.ref a2, .ref a3, .ref a4, .ref a5, .ref a6, .int 0, .ref a7, .int 0, .int 0])), (a2, .inr (0, [.ref a8, .ref a9, .int 0, .int 0]))] sz)) (va_Qv (fun _ : Nat × Nat => True) (fun (u : Nat × Nat) t => va_P D vwCl [(h0, .inr (1, [.ref a1, .ref a2, .ref a8, .ref u.1, .ref u.2, .int 0, .int 0, .int 0, .int (-9), .long 0])), (a1, .inr (5, [.ref a2, .ref a3, .ref a4, .ref a5, .ref a6, .int 0, .ref a7, .int 0, .int 0])), (a2, .inr (0, [.ref a8, .ref a9, .int 0, .int 0])), (u.1, .inl (cI, 6, .inl (fun _ => 0))), (u.2, .inl (cI, 6, .inl (fun _ => 0)))] t.heap ∧ va_D (va_A [(h0, .inr (1, [.null, .null, .null, .null, .null, .int 0, .int 0, .int 0, .int 0, .long 0])), (a1, .inr (5, [.ref a2, .ref a3, .ref a4, .ref a5, .ref a6, .int 0, .ref a7, .int 0, .int 0])), (a2, .inr (0, [.ref a8, .ref a9, .int 0, .int 0]))] sz) [(h0, .inr (1, [.ref a1, .ref a2, .ref a8, .ref u.1, .ref u.2, .int 0, .int 0, .int 0, .int (-9), .long 0])), (a1, .inr (5, [.ref a2, .ref a3, .ref a4, .ref a5, .ref a6, .int 0, .ref a7, .int 0, .int 0])), (a2, .inr (0, [.ref a8, .ref a9, .int 0, .int 0])), (u.1, .inl (cI, 6, .inl (fun _ => 0))), (u.2, .inl (cI, 6, .inl (fun _ => 0)))]) (va_A [(h0, .inr (1, [.null, .null, .null, .null, .null, .int 0, .int 0, .int 0, .int 0, .long 0])), (a1, .inr (5, [.ref a2, .ref a3, .ref a4, .ref a5, .ref a6, .int 0, .ref a7, .int 0, .int 0])), (a2, .inr (0, [.ref a8, .ref a9, .int 0, .int 0]))] sz)) 2 12 (va_A [(h0, .inr (1, [.null, .null, .null, .null, .null, .int 0, .int 0, .int 0, .int 0, .long 0])), (a1, .inr (5, [.ref a2, .ref a3, .ref a4, .ref a5, .ref a6, .int 0, .ref a7, .int 0, .int 0])), (a2, .inr (0, [.ref a8, .ref a9, .int 0, .int 0]))] sz) := by
  refine Met.ofW (cc := cX1_init) (maxL := 2) (ret := none) (by decide +kernel) rfl ?_
  intro p e s m args below meth c s₁ B hml hv
  obtain ⟨rfl, hsz, hP, hK, hD0, hN⟩ := hv
  have hx := B.exec
  have hb := B.bytes
  have hr := B.returns
  have hts := atoms_spec (ws := wsU yX1_init cX1_init 2 none) B.pre
  have hown : s.vm.findClass RX1 = some m.cls := findClass_of_methodNamed B.named
  have hlocks := B.notSynchronized
  have hin : meth.name = "<init>" := (name_of_methodNamed B.named B.method).1
  subst hsz
  have hD := hD0.self (sz := s.heap.size)
  generalize hAe : va_A [(h0, .inr (1, [.null, .null, .null, .null, .null, .int 0, .int 0, .int 0, .int 0, .long 0])), (a1, .inr (5, [.ref a2, .ref a3, .ref a4, .ref a5, .ref a6, .int 0, .ref a7, .int 0, .int 0])), (a2, .inr (0, [.ref a8, .ref a9, .int 0, .int 0]))] s.heap.size = A at hD ⊢
  have hA : ∀ q : Nat, s.heap.size ≤ q → A q := fun q h => by rw [← hAe]; exact Or.inr h
  have hS : va_S A s.heap s.heap [] := va_S.rf
  have hP : va_P D vwCl [(h0, .inr (1, [.null, .null, .null, .null, .null, .int 0, .int 0, .int 0, .int 0, .long 0])), (a1, .inr (5, [.ref a2, .ref a3, .ref a4, .ref a5, .ref a6, .int 0, .ref a7, .int 0, .int 0])), (a2, .inr (0, [.ref a8, .ref a9, .int 0, .int 0]))] s.heap := hP
  have hl := lv_entry ([.ref h0, .ref a1]) (n := 2) (Nat.le_of_ble_eq_true rfl)
  rw [lg_entry_eq]
  generalize (lg_sl ([.ref h0, .ref a1]) ++ List.replicate (2 - (lg_sl ([.ref h0, .ref a1])).length) Slot.unset).toArray = ls at hl ⊢
  have hl : lv_has ls 2 [(0, .ref h0), (1, .ref a1)] := hl
  refine lv_aload_n (pc := 0) hx hb dX1_init_0 rfl (lv_at hl 0 rfl) ?_
  refine W.objInit hx hb hown (hts _ (wsU_in ml_X1_3)) (hts _ (wsU_in oi_inst)) (hts _ (wsU_in oi_code)) rfl (by rw [hml]; exact hl.1) rfl dX1_init_1 (Nat.le_of_ble_eq_true rfl) (Nat.le_of_ble_eq_true rfl) ?_
  refine W.eq (g2 := F0 m 4 ls []) rfl ?_
  refine lv_aload_n (pc := 4) hx hb dX1_init_4 rfl (lv_at hl 0 rfl) ?_
  refine lv_bipush (pc := 5) (v := 6) hx hb dX1_init_5 (by decide) ?_
  refine nwI (pc := 7) hx hb (hts _ (wsU_in arc_int)) hK hP hD hS hA (by decide) (N' := 6) (by decide) (Nat.le_of_ble_eq_true rfl) (Nat.le_of_ble_eq_true rfl) (Nat.le_of_ble_eq_true rfl) dX1_init_7 (fun q1 H hP hD hS => ?_)
  have hP : va_P D vwCl [(h0, .inr (1, [.null, .null, .null, .null, .null, .int 0, .int 0, .int 0, .int 0, .long 0])), (a1, .inr (5, [.ref a2, .ref a3, .ref a4, .ref a5, .ref a6, .int 0, .ref a7, .int 0, .int 0])), (a2, .inr (0, [.ref a8, .ref a9, .int 0, .int 0])), (q1, .inl (cI, 6, .inl (fun _ => 0)))] H := hP
  have hD : va_D A [(h0, .inr (1, [.null, .null, .null, .null, .null, .int 0, .int 0, .int 0, .int 0, .long 0])), (a1, .inr (5, [.ref a2, .ref a3, .ref a4, .ref a5, .ref a6, .int 0, .ref a7, .int 0, .int 0])), (a2, .inr (0, [.ref a8, .ref a9, .int 0, .int 0])), (q1, .inl (cI, 6, .inl (fun _ => 0)))] := hD
  refine va_putF (pc := 9) (D := D) (ci := 1) (v := .ref q1) (ty := .array .int) (C := RX1) (T := TX1) (N := 10) hx hb hts (fun w hw => wsU_in (uw_X1 w hw)) tyX1 tyX1_ok nmX1 hown hK hP hD hS 0 rfl rfl 3 (by decide) (hts _ (wsU_in fl_X1_9)) (fun _ h9 => h9) rfl hin rfl (by decide +kernel) rfl rfl (Nat.le_of_ble_eq_true rfl) dX1_init_9 (fun H locs hP hD hS => ?_)
  have hP : va_P D vwCl [(h0, .inr (1, [.null, .null, .null, .ref q1, .null, .int 0, .int 0, .int 0, .int 0, .long 0])), (a1, .inr (5, [.ref a2, .ref a3, .ref a4, .ref a5, .ref a6, .int 0, .ref a7, .int 0, .int 0])), (a2, .inr (0, [.ref a8, .ref a9, .int 0, .int 0])), (q1, .inl (cI, 6, .inl (fun _ => 0)))] H := hP
  have hD : va_D A [(h0, .inr (1, [.null, .null, .null, .ref q1, .null, .int 0, .int 0, .int 0, .int 0, .long 0])), (a1, .inr (5, [.ref a2, .ref a3, .ref a4, .ref a5, .ref a6, .int 0, .ref a7, .int 0, .int 0])), (a2, .inr (0, [.ref a8, .ref a9, .int 0, .int 0])), (q1, .inl (cI, 6, .inl (fun _ => 0)))] := hD
  refine lv_aload_n (pc := 12) hx hb dX1_init_12 rfl (lv_at hl 0 rfl) ?_
  refine lv_bipush (pc := 13) (v := 6) hx hb dX1_init_13 (by decide) ?_
  refine nwI (pc := 15) hx hb (hts _ (wsU_in arc_int)) hK hP hD hS hA (by decide) (N' := 6) (by decide) (Nat.le_of_ble_eq_true rfl) (Nat.le_of_ble_eq_true rfl) (Nat.le_of_ble_eq_true rfl) dX1_init_15 (fun q2 H hP hD hS => ?_)
  have hP : va_P D vwCl [(h0, .inr (1, [.null, .null, .null, .ref q1, .null, .int 0, .int 0, .int 0, .int 0, .long 0])), (a1, .inr (5, [.ref a2, .ref a3, .ref a4, .ref a5, .ref a6, .int 0, .ref a7, .int 0, .int 0])), (a2, .inr (0, [.ref a8, .ref a9, .int 0, .int 0])), (q1, .inl (cI, 6, .inl (fun _ => 0))), (q2, .inl (cI, 6, .inl (fun _ => 0)))] H := hP
  have hD : va_D A [(h0, .inr (1, [.null, .null, .null, .ref q1, .null, .int 0, .int 0, .int 0, .int 0, .long 0])), (a1, .inr (5, [.ref a2, .ref a3, .ref a4, .ref a5, .ref a6, .int 0, .ref a7, .int 0, .int 0])), (a2, .inr (0, [.ref a8, .ref a9, .int 0, .int 0])), (q1, .inl (cI, 6, .inl (fun _ => 0))), (q2, .inl (cI, 6, .inl (fun _ => 0)))] := hD
  refine va_putF (pc := 17) (D := D) (ci := 1) (v := .ref q2) (ty := .array .int) (C := RX1) (T := TX1) (N := 10) hx hb hts (fun w hw => wsU_in (uw_X1 w hw)) tyX1 tyX1_ok nmX1 hown hK hP hD hS 0 rfl rfl 4 (by decide) (hts _ (wsU_in fl_X1_15)) (fun _ h9 => h9) rfl hin rfl (by decide +kernel) rfl rfl (Nat.le_of_ble_eq_true rfl) dX1_init_17 (fun H locs hP hD hS => ?_)
  have hP : va_P D vwCl [(h0, .inr (1, [.null, .null, .null, .ref q1, .ref q2, .int 0, .int 0, .int 0, .int 0, .long 0])), (a1, .inr (5, [.ref a2, .ref a3, .ref a4, .ref a5, .ref a6, .int 0, .ref a7, .int 0, .int 0])), (a2, .inr (0, [.ref a8, .ref a9, .int 0, .int 0])), (q1, .inl (cI, 6, .inl (fun _ => 0))), (q2, .inl (cI, 6, .inl (fun _ => 0)))] H := hP
  have hD : va_D A [(h0, .inr (1, [.null, .null, .null, .ref q1, .ref q2, .int 0, .int 0, .int 0, .int 0, .long 0])), (a1, .inr (5, [.ref a2, .ref a3, .ref a4, .ref a5, .ref a6, .int 0, .ref a7, .int 0, .int 0])), (a2, .inr (0, [.ref a8, .ref a9, .int 0, .int 0])), (q1, .inl (cI, 6, .inl (fun _ => 0))), (q2, .inl (cI, 6, .inl (fun _ => 0)))] := hD
  refine lv_aload_n (pc := 20) hx hb dX1_init_20 rfl (lv_at hl 0 rfl) ?_
  refine lv_iconst (pc := 21) (v := 0) hx hb dX1_init_21 (by decide) ?_
  refine va_put (pc := 22) (D := D) (ci := 1) (v := .int 0) (ty := .int) (C := RX1) (T := TX1) (N := 10) hx hb hts (fun w hw => wsU_in (uw_X1 w hw)) tyX1 tyX1_ok nmX1 hown hK hP hD hS 0 rfl rfl 5 (by decide) (hts _ (wsU_in fl_X1_18)) (fun _ h9 => h9) rfl (by decide +kernel) rfl rfl (Nat.le_of_ble_eq_true rfl) dX1_init_22 (fun H locs hP hD hS => ?_)
  have hP : va_P D vwCl [(h0, .inr (1, [.null, .null, .null, .ref q1, .ref q2, .int 0, .int 0, .int 0, .int 0, .long 0])), (a1, .inr (5, [.ref a2, .ref a3, .ref a4, .ref a5, .ref a6, .int 0, .ref a7, .int 0, .int 0])), (a2, .inr (0, [.ref a8, .ref a9, .int 0, .int 0])), (q1, .inl (cI, 6, .inl (fun _ => 0))), (q2, .inl (cI, 6, .inl (fun _ => 0)))] H := hP
  have hD : va_D A [(h0, .inr (1, [.null, .null, .null, .ref q1, .ref q2, .int 0, .int 0, .int 0, .int 0, .long 0])), (a1, .inr (5, [.ref a2, .ref a3, .ref a4, .ref a5, .ref a6, .int 0, .ref a7, .int 0, .int 0])), (a2, .inr (0, [.ref a8, .ref a9, .int 0, .int 0])), (q1, .inl (cI, 6, .inl (fun _ => 0))), (q2, .inl (cI, 6, .inl (fun _ => 0)))] := hD
  refine lv_aload_n (pc := 25) hx hb dX1_init_25 rfl (lv_at hl 0 rfl) ?_
  refine lv_iconst (pc := 26) (v := 0) hx hb dX1_init_26 (by decide) ?_
  refine va_put (pc := 27) (D := D) (ci := 1) (v := .int 0) (ty := .int) (C := RX1) (T := TX1) (N := 10) hx hb hts (fun w hw => wsU_in (uw_X1 w hw)) tyX1 tyX1_ok nmX1 hown hK hP hD hS 0 rfl rfl 6 (by decide) (hts _ (wsU_in fl_X1_22)) (fun _ h9 => h9) rfl (by decide +kernel) rfl rfl (Nat.le_of_ble_eq_true rfl) dX1_init_27 (fun H locs hP hD hS => ?_)
  have hP : va_P D vwCl [(h0, .inr (1, [.null, .null, .null, .ref q1, .ref q2, .int 0, .int 0, .int 0, .int 0, .long 0])), (a1, .inr (5, [.ref a2, .ref a3, .ref a4, .ref a5, .ref a6, .int 0, .ref a7, .int 0, .int 0])), (a2, .inr (0, [.ref a8, .ref a9, .int 0, .int 0])), (q1, .inl (cI, 6, .inl (fun _ => 0))), (q2, .inl (cI, 6, .inl (fun _ => 0)))] H := hP
  have hD : va_D A [(h0, .inr (1, [.null, .null, .null, .ref q1, .ref q2, .int 0, .int 0, .int 0, .int 0, .long 0])), (a1, .inr (5, [.ref a2, .ref a3, .ref a4, .ref a5, .ref a6, .int 0, .ref a7, .int 0, .int 0])), (a2, .inr (0, [.ref a8, .ref a9, .int 0, .int 0])), (q1, .inl (cI, 6, .inl (fun _ => 0))), (q2, .inl (cI, 6, .inl (fun _ => 0)))] := hD
  refine lv_aload_n (pc := 30) hx hb dX1_init_30 rfl (lv_at hl 0 rfl) ?_
  refine lv_iconst (pc := 31) (v := 0) hx hb dX1_init_31 (by decide) ?_
  refine va_put (pc := 32) (D := D) (ci := 1) (v := .int 0) (ty := .int) (C := RX1) (T := TX1) (N := 10) hx hb hts (fun w hw => wsU_in (uw_X1 w hw)) tyX1 tyX1_ok nmX1 hown hK hP hD hS 0 rfl rfl 7 (by decide) (hts _ (wsU_in fl_X1_25)) (fun _ h9 => h9) rfl (by decide +kernel) rfl rfl (Nat.le_of_ble_eq_true rfl) dX1_init_32 (fun H locs hP hD hS => ?_)
  have hP : va_P D vwCl [(h0, .inr (1, [.null, .null, .null, .ref q1, .ref q2, .int 0, .int 0, .int 0, .int 0, .long 0])), (a1, .inr (5, [.ref a2, .ref a3, .ref a4, .ref a5, .ref a6, .int 0, .ref a7, .int 0, .int 0])), (a2, .inr (0, [.ref a8, .ref a9, .int 0, .int 0])), (q1, .inl (cI, 6, .inl (fun _ => 0))), (q2, .inl (cI, 6, .inl (fun _ => 0)))] H := hP
  have hD : va_D A [(h0, .inr (1, [.null, .null, .null, .ref q1, .ref q2, .int 0, .int 0, .int 0, .int 0, .long 0])), (a1, .inr (5, [.ref a2, .ref a3, .ref a4, .ref a5, .ref a6, .int 0, .ref a7, .int 0, .int 0])), (a2, .inr (0, [.ref a8, .ref a9, .int 0, .int 0])), (q1, .inl (cI, 6, .inl (fun _ => 0))), (q2, .inl (cI, 6, .inl (fun _ => 0)))] := hD
  refine lv_aload_n (pc := 35) hx hb dX1_init_35 rfl (lv_at hl 0 rfl) ?_
  refine lv_bipush (pc := 36) (v := (-9)) hx hb dX1_init_36 (by decide) ?_
  refine va_put (pc := 38) (D := D) (ci := 1) (v := .int (-9)) (ty := .int) (C := RX1) (T := TX1) (N := 10) hx hb hts (fun w hw => wsU_in (uw_X1 w hw)) tyX1 tyX1_ok nmX1 hown hK hP hD hS 0 rfl rfl 8 (by decide) (hts _ (wsU_in fl_X1_28)) (fun _ h9 => h9) rfl (by decide +kernel) rfl rfl (Nat.le_of_ble_eq_true rfl) dX1_init_38 (fun H locs hP hD hS => ?_)
  have hP : va_P D vwCl [(h0, .inr (1, [.null, .null, .null, .ref q1, .ref q2, .int 0, .int 0, .int 0, .int (-9), .long 0])), (a1, .inr (5, [.ref a2, .ref a3, .ref a4, .ref a5, .ref a6, .int 0, .ref a7, .int 0, .int 0])), (a2, .inr (0, [.ref a8, .ref a9, .int 0, .int 0])), (q1, .inl (cI, 6, .inl (fun _ => 0))), (q2, .inl (cI, 6, .inl (fun _ => 0)))] H := hP
  have hD : va_D A [(h0, .inr (1, [.null, .null, .null, .ref q1, .ref q2, .int 0, .int 0, .int 0, .int (-9), .long 0])), (a1, .inr (5, [.ref a2, .ref a3, .ref a4, .ref a5, .ref a6, .int 0, .ref a7, .int 0, .int 0])), (a2, .inr (0, [.ref a8, .ref a9, .int 0, .int 0])), (q1, .inl (cI, 6, .inl (fun _ => 0))), (q2, .inl (cI, 6, .inl (fun _ => 0)))] := hD
  refine lv_aload_n (pc := 41) hx hb dX1_init_41 rfl (lv_at hl 0 rfl) ?_
  refine lv_lconst (pc := 42) (v := 0) hx hb dX1_init_42 (by decide) ?_
  refine va_put (pc := 43) (D := D) (ci := 1) (v := .long 0) (ty := .long) (C := RX1) (T := TX1) (N := 10) hx hb hts (fun w hw => wsU_in (uw_X1 w hw)) tyX1 tyX1_ok nmX1 hown hK hP hD hS 0 rfl rfl 9 (by decide) (hts _ (wsU_in fl_X1_31)) (fun _ h9 => h9) rfl (by decide +kernel) rfl rfl (Nat.le_of_ble_eq_true rfl) dX1_init_43 (fun H locs hP hD hS => ?_)
  have hP : va_P D vwCl [(h0, .inr (1, [.null, .null, .null, .ref q1, .ref q2, .int 0, .int 0, .int 0, .int (-9), .long 0])), (a1, .inr (5, [.ref a2, .ref a3, .ref a4, .ref a5, .ref a6, .int 0, .ref a7, .int 0, .int 0])), (a2, .inr (0, [.ref a8, .ref a9, .int 0, .int 0])), (q1, .inl (cI, 6, .inl (fun _ => 0))), (q2, .inl (cI, 6, .inl (fun _ => 0)))] H := hP
  have hD : va_D A [(h0, .inr (1, [.null, .null, .null, .ref q1, .ref q2, .int 0, .int 0, .int 0, .int (-9), .long 0])), (a1, .inr (5, [.ref a2, .ref a3, .ref a4, .ref a5, .ref a6, .int 0, .ref a7, .int 0, .int 0])), (a2, .inr (0, [.ref a8, .ref a9, .int 0, .int 0])), (q1, .inl (cI, 6, .inl (fun _ => 0))), (q2, .inl (cI, 6, .inl (fun _ => 0)))] := hD
  refine lv_aload_n (pc := 46) hx hb dX1_init_46 rfl (lv_at hl 0 rfl) ?_
  refine lv_aload_n (pc := 47) hx hb dX1_init_47 rfl (lv_at hl 1 rfl) ?_
  refine va_putF (pc := 48) (D := D) (ci := 1) (v := .ref a1) (ty := .object "JarCouncil$Plan") (C := RX1) (T := TX1) (N := 10) hx hb hts (fun w hw => wsU_in (uw_X1 w hw)) tyX1 tyX1_ok nmX1 hown hK hP hD hS 0 rfl rfl 0 (by decide) (hts _ (wsU_in fl_X1_35)) (fun _ h9 => h9) rfl hin rfl (by decide +kernel) rfl rfl (Nat.le_of_ble_eq_true rfl) dX1_init_48 (fun H locs hP hD hS => ?_)
  have hP : va_P D vwCl [(h0, .inr (1, [.ref a1, .null, .null, .ref q1, .ref q2, .int 0, .int 0, .int 0, .int (-9), .long 0])), (a1, .inr (5, [.ref a2, .ref a3, .ref a4, .ref a5, .ref a6, .int 0, .ref a7, .int 0, .int 0])), (a2, .inr (0, [.ref a8, .ref a9, .int 0, .int 0])), (q1, .inl (cI, 6, .inl (fun _ => 0))), (q2, .inl (cI, 6, .inl (fun _ => 0)))] H := hP
  have hD : va_D A [(h0, .inr (1, [.ref a1, .null, .null, .ref q1, .ref q2, .int 0, .int 0, .int 0, .int (-9), .long 0])), (a1, .inr (5, [.ref a2, .ref a3, .ref a4, .ref a5, .ref a6, .int 0, .ref a7, .int 0, .int 0])), (a2, .inr (0, [.ref a8, .ref a9, .int 0, .int 0])), (q1, .inl (cI, 6, .inl (fun _ => 0))), (q2, .inl (cI, 6, .inl (fun _ => 0)))] := hD
  refine lv_aload_n (pc := 51) hx hb dX1_init_51 rfl (lv_at hl 0 rfl) ?_
  refine lv_aload_n (pc := 52) hx hb dX1_init_52 rfl (lv_at hl 1 rfl) ?_
  refine va_getN (pc := 53) (D := D) (ci := 5) (v := .ref a2) (C := RX5) (T := TX5) (N := 9) hx hb hts (fun w hw => wsU_in (uw_X5 w hw)) hown hK hP 1 rfl rfl 0 (by decide) (va_Nw.use rfl (hN _ fn_X1_39 rfl)) (fun _ h9 => h9) rfl dX1_init_53 ?_
  refine va_putF (pc := 56) (D := D) (ci := 1) (v := .ref a2) (ty := .object "JarCouncil$Course") (C := RX1) (T := TX1) (N := 10) hx hb hts (fun w hw => wsU_in (uw_X1 w hw)) tyX1 tyX1_ok nmX1 hown hK hP hD hS 0 rfl rfl 1 (by decide) (hts _ (wsU_in fl_X1_45)) (fun _ h9 => h9) rfl hin rfl (by decide +kernel) rfl rfl (Nat.le_of_ble_eq_true rfl) dX1_init_56 (fun H locs hP hD hS => ?_)
  have hP : va_P D vwCl [(h0, .inr (1, [.ref a1, .ref a2, .null, .ref q1, .ref q2, .int 0, .int 0, .int 0, .int (-9), .long 0])), (a1, .inr (5, [.ref a2, .ref a3, .ref a4, .ref a5, .ref a6, .int 0, .ref a7, .int 0, .int 0])), (a2, .inr (0, [.ref a8, .ref a9, .int 0, .int 0])), (q1, .inl (cI, 6, .inl (fun _ => 0))), (q2, .inl (cI, 6, .inl (fun _ => 0)))] H := hP
  have hD : va_D A [(h0, .inr (1, [.ref a1, .ref a2, .null, .ref q1, .ref q2, .int 0, .int 0, .int 0, .int (-9), .long 0])), (a1, .inr (5, [.ref a2, .ref a3, .ref a4, .ref a5, .ref a6, .int 0, .ref a7, .int 0, .int 0])), (a2, .inr (0, [.ref a8, .ref a9, .int 0, .int 0])), (q1, .inl (cI, 6, .inl (fun _ => 0))), (q2, .inl (cI, 6, .inl (fun _ => 0)))] := hD
  refine lv_aload_n (pc := 59) hx hb dX1_init_59 rfl (lv_at hl 0 rfl) ?_
  refine lv_aload_n (pc := 60) hx hb dX1_init_60 rfl (lv_at hl 1 rfl) ?_
  refine va_getN (pc := 61) (D := D) (ci := 5) (v := .ref a2) (C := RX5) (T := TX5) (N := 9) hx hb hts (fun w hw => wsU_in (uw_X5 w hw)) hown hK hP 1 rfl rfl 0 (by decide) (va_Nw.use rfl (hN _ fn_X1_39 rfl)) (fun _ h9 => h9) rfl dX1_init_61 ?_
  refine va_getN (pc := 64) (D := D) (ci := 0) (v := .ref a8) (C := RX0) (T := TX0) (N := 4) hx hb hts (fun w hw => wsU_in (uw_X0 w hw)) hown hK hP 2 rfl rfl 0 (by decide) (va_Nw.use rfl (hN _ fn_X1_46 rfl)) (fun _ h9 => h9) rfl dX1_init_64 ?_
  refine va_putF (pc := 67) (D := D) (ci := 1) (v := .ref a8) (ty := .object "JarCouncil$People") (C := RX1) (T := TX1) (N := 10) hx hb hts (fun w hw => wsU_in (uw_X1 w hw)) tyX1 tyX1_ok nmX1 hown hK hP hD hS 0 rfl rfl 2 (by decide) (hts _ (wsU_in fl_X1_52)) (fun _ h9 => h9) rfl hin rfl (by decide +kernel) rfl rfl (Nat.le_of_ble_eq_true rfl) dX1_init_67 (fun H locs hP hD hS => ?_)
  have hP : va_P D vwCl [(h0, .inr (1, [.ref a1, .ref a2, .ref a8, .ref q1, .ref q2, .int 0, .int 0, .int 0, .int (-9), .long 0])), (a1, .inr (5, [.ref a2, .ref a3, .ref a4, .ref a5, .ref a6, .int 0, .ref a7, .int 0, .int 0])), (a2, .inr (0, [.ref a8, .ref a9, .int 0, .int 0])), (q1, .inl (cI, 6, .inl (fun _ => 0))), (q2, .inl (cI, 6, .inl (fun _ => 0)))] H := hP
  have hD : va_D A [(h0, .inr (1, [.ref a1, .ref a2, .ref a8, .ref q1, .ref q2, .int 0, .int 0, .int 0, .int (-9), .long 0])), (a1, .inr (5, [.ref a2, .ref a3, .ref a4, .ref a5, .ref a6, .int 0, .ref a7, .int 0, .int 0])), (a2, .inr (0, [.ref a8, .ref a9, .int 0, .int 0])), (q1, .inl (cI, 6, .inl (fun _ => 0))), (q2, .inl (cI, 6, .inl (fun _ => 0)))] := hD
  refine W.widen (k := 2) (n := 12) (Nat.le_of_ble_eq_true rfl) (Nat.le_of_ble_eq_true rfl) ?_
  exact W.vret hx hb hr (fun t ht hW => ⟨⟨(q1, q2), rfl, trivial, by rw [ht]; exact hP, hD⟩, hS.F ht⟩) hS.2.2 dX1_init_70
theorem pd_X3_init : yX3_init.cls ≠ "java/lang/invoke/MethodHandle" ∧ yX3_init.cls ≠ "java/lang/invoke/VarHandle" ∧ (parseMethodDescriptor yX3_init.desc).map (fun d => d.parameters.length) = some 2 := by decide +kernel
def rm3_init : Room := { frames := 1, cells := 2, slots := 30, locals := 12 }
set_option maxHeartbeats 8000000 in
set_option maxRecDepth 100000 in
theorem c3_init {l : Launch} (D : va_G) (cI cL : ClassId) (h0 a1 a2 a3 a4 a5 a6 a7 : Nat) (sz : Nat) : Met l yX3_init (wsU yX3_init cX3_init 3 none) rm3_init (va_Pc [.ref h0, .ref a1, .ref a2] (CPre D cI cL [(h0, .inr (3, [.null, .null, .null, .null, .null, .null, .int 0])), (a2, .inr (1, [.ref a3, .ref a4, .ref a5, .ref a6, .ref a7, .int 0, .int 0, .int 0, .int (-9), .long 0]))] sz)) (va_Qv (fun _ : Nat × Nat => True) (fun (u : Nat × Nat) t => va_P D vwCl [(h0, .inr (3, [.ref a1, .ref a4, .ref a3, .ref a2, .ref u.1, .ref u.2, .int 0])), (a2, .inr (1, [.ref a3, .ref a4, .ref a5, .ref a6, .ref a7, .int 0, .int 0, .int 0, .int (-9), .long 0])), (u.1, .inl (cI, 15, .inl (fun _ => 0))), (u.2, .inl (cI, 15, .inl (fun _ => 0)))] t.heap ∧ va_D (va_A [(h0, .inr (3, [.null, .null, .null, .null, .null, .null, .int 0])), (a2, .inr (1, [.ref a3, .ref a4, .ref a5, .ref a6, .ref a7, .int 0, .int 0, .int 0, .int (-9), .long 0]))] sz) [(h0, .inr (3, [.ref a1, .ref a4, .ref a3, .ref a2, .ref u.1, .ref u.2, .int 0])), (a2, .inr (1, [.ref a3, .ref a4, .ref a5, .ref a6, .ref a7, .int 0, .int 0, .int 0, .int (-9), .long 0])), (u.1, .inl (cI, 15, .inl (fun _ => 0))), (u.2, .inl (cI, 15, .inl (fun _ => 0)))]) (va_A [(h0, .inr (3, [.null, .null, .null, .null, .null, .null, .int 0])), (a2, .inr (1, [.ref a3, .ref a4, .ref a5, .ref a6, .ref a7, .int 0, .int 0, .int 0, .int (-9), .long 0]))] sz)) 2 30 (va_A [(h0, .inr (3, [.null, .null, .null, .null, .null, .null, .int 0])), (a2, .inr (1, [.ref a3, .ref a4, .ref a5, .ref a6, .ref a7, .int 0, .int 0, .int 0, .int (-9), .long 0]))] sz) := by
  refine Met.ofW (cc := cX3_init) (maxL := 3) (ret := none) (by decide +kernel) rfl ?_
  intro p e s m args below meth c s₁ B hml hv
  obtain ⟨rfl, hsz, hP, hK, hD0, hN⟩ := hv
  have hx := B.exec
  have hb := B.bytes
  have hr := B.returns
  have hts := atoms_spec (ws := wsU yX3_init cX3_init 3 none) B.pre
  have hown : s.vm.findClass RX3 = some m.cls := findClass_of_methodNamed B.named
  have hlocks := B.notSynchronized
  have hin : meth.name = "<init>" := (name_of_methodNamed B.named B.method).1
  subst hsz
  have hD := hD0.self (sz := s.heap.size)
  generalize hAe : va_A [(h0, .inr (3, [.null, .null, .null, .null, .null, .null, .int 0])), (a2, .inr (1, [.ref a3, .ref a4, .ref a5, .ref a6, .ref a7, .int 0, .int 0, .int 0, .int (-9), .long 0]))] s.heap.size = A at hD ⊢
  have hA : ∀ q : Nat, s.heap.size ≤ q → A q := fun q h => by rw [← hAe]; exact Or.inr h
  have hS : va_S A s.heap s.heap [] := va_S.rf
  have hP : va_P D vwCl [(h0, .inr (3, [.null, .null, .null, .null, .null, .null, .int 0])), (a2, .inr (1, [.ref a3, .ref a4, .ref a5, .ref a6, .ref a7, .int 0, .int 0, .int 0, .int (-9), .long 0]))] s.heap := hP
  have hl := lv_entry ([.ref h0, .ref a1, .ref a2]) (n := 3) (Nat.le_of_ble_eq_true rfl)
  rw [lg_entry_eq]
  generalize (lg_sl ([.ref h0, .ref a1, .ref a2]) ++ List.replicate (3 - (lg_sl ([.ref h0, .ref a1, .ref a2])).length) Slot.unset).toArray = ls at hl ⊢
  have hl : lv_has ls 3 [(0, .ref h0), (1, .ref a1), (2, .ref a2)] := hl
  refine lv_aload_n (pc := 0) hx hb dX3_init_0 rfl (lv_at hl 0 rfl) ?_
  refine W.objInit hx hb hown (hts _ (wsU_in ml_X3_3)) (hts _ (wsU_in oi_inst)) (hts _ (wsU_in oi_code)) rfl (by rw [hml]; exact hl.1) rfl dX3_init_1 (Nat.le_of_ble_eq_true rfl) (Nat.le_of_ble_eq_true rfl) ?_
  refine W.eq (g2 := F0 m 4 ls []) rfl ?_
  refine lv_aload_n (pc := 4) hx hb dX3_init_4 rfl (lv_at hl 0 rfl) ?_
  refine lv_bipush (pc := 5) (v := 15) hx hb dX3_init_5 (by decide) ?_
  refine nwI (pc := 7) hx hb (hts _ (wsU_in arc_int)) hK hP hD hS hA (by decide) (N' := 15) (by decide) (Nat.le_of_ble_eq_true rfl) (Nat.le_of_ble_eq_true rfl) (Nat.le_of_ble_eq_true rfl) dX3_init_7 (fun q1 H hP hD hS => ?_)
  have hP : va_P D vwCl [(h0, .inr (3, [.null, .null, .null, .null, .null, .null, .int 0])), (a2, .inr (1, [.ref a3, .ref a4, .ref a5, .ref a6, .ref a7, .int 0, .int 0, .int 0, .int (-9), .long 0])), (q1, .inl (cI, 15, .inl (fun _ => 0)))] H := hP
  have hD : va_D A [(h0, .inr (3, [.null, .null, .null, .null, .null, .null, .int 0])), (a2, .inr (1, [.ref a3, .ref a4, .ref a5, .ref a6, .ref a7, .int 0, .int 0, .int 0, .int (-9), .long 0])), (q1, .inl (cI, 15, .inl (fun _ => 0)))] := hD
  refine va_putF (pc := 9) (D := D) (ci := 3) (v := .ref q1) (ty := .array .int) (C := RX3) (T := TX3) (N := 7) hx hb hts (fun w hw => wsU_in (uw_X3 w hw)) tyX3 tyX3_ok nmX3 hown hK hP hD hS 0 rfl rfl 4 (by decide) (hts _ (wsU_in fl_X3_9)) (fun _ h9 => h9) rfl hin rfl (by decide +kernel) rfl rfl (Nat.le_of_ble_eq_true rfl) dX3_init_9 (fun H locs hP hD hS => ?_)
  have hP : va_P D vwCl [(h0, .inr (3, [.null, .null, .null, .null, .ref q1, .null, .int 0])), (a2, .inr (1, [.ref a3, .ref a4, .ref a5, .ref a6, .ref a7, .int 0, .int 0, .int 0, .int (-9), .long 0])), (q1, .inl (cI, 15, .inl (fun _ => 0)))] H := hP
  have hD : va_D A [(h0, .inr (3, [.null, .null, .null, .null, .ref q1, .null, .int 0])), (a2, .inr (1, [.ref a3, .ref a4, .ref a5, .ref a6, .ref a7, .int 0, .int 0, .int 0, .int (-9), .long 0])), (q1, .inl (cI, 15, .inl (fun _ => 0)))] := hD
  refine lv_aload_n (pc := 12) hx hb dX3_init_12 rfl (lv_at hl 0 rfl) ?_
  refine lv_bipush (pc := 13) (v := 15) hx hb dX3_init_13 (by decide) ?_
  refine nwI (pc := 15) hx hb (hts _ (wsU_in arc_int)) hK hP hD hS hA (by decide) (N' := 15) (by decide) (Nat.le_of_ble_eq_true rfl) (Nat.le_of_ble_eq_true rfl) (Nat.le_of_ble_eq_true rfl) dX3_init_15 (fun q2 H hP hD hS => ?_)
  have hP : va_P D vwCl [(h0, .inr (3, [.null, .null, .null, .null, .ref q1, .null, .int 0])), (a2, .inr (1, [.ref a3, .ref a4, .ref a5, .ref a6, .ref a7, .int 0, .int 0, .int 0, .int (-9), .long 0])), (q1, .inl (cI, 15, .inl (fun _ => 0))), (q2, .inl (cI, 15, .inl (fun _ => 0)))] H := hP
  have hD : va_D A [(h0, .inr (3, [.null, .null, .null, .null, .ref q1, .null, .int 0])), (a2, .inr (1, [.ref a3, .ref a4, .ref a5, .ref a6, .ref a7, .int 0, .int 0, .int 0, .int (-9), .long 0])), (q1, .inl (cI, 15, .inl (fun _ => 0))), (q2, .inl (cI, 15, .inl (fun _ => 0)))] := hD
  refine va_putF (pc := 17) (D := D) (ci := 3) (v := .ref q2) (ty := .array .int) (C := RX3) (T := TX3) (N := 7) hx hb hts (fun w hw => wsU_in (uw_X3 w hw)) tyX3 tyX3_ok nmX3 hown hK hP hD hS 0 rfl rfl 5 (by decide) (hts _ (wsU_in fl_X3_15)) (fun _ h9 => h9) rfl hin rfl (by decide +kernel) rfl rfl (Nat.le_of_ble_eq_true rfl) dX3_init_17 (fun H locs hP hD hS => ?_)
  have hP : va_P D vwCl [(h0, .inr (3, [.null, .null, .null, .null, .ref q1, .ref q2, .int 0])), (a2, .inr (1, [.ref a3, .ref a4, .ref a5, .ref a6, .ref a7, .int 0, .int 0, .int 0, .int (-9), .long 0])), (q1, .inl (cI, 15, .inl (fun _ => 0))), (q2, .inl (cI, 15, .inl (fun _ => 0)))] H := hP
  have hD : va_D A [(h0, .inr (3, [.null, .null, .null, .null, .ref q1, .ref q2, .int 0])), (a2, .inr (1, [.ref a3, .ref a4, .ref a5, .ref a6, .ref a7, .int 0, .int 0, .int 0, .int (-9), .long 0])), (q1, .inl (cI, 15, .inl (fun _ => 0))), (q2, .inl (cI, 15, .inl (fun _ => 0)))] := hD
  refine lv_aload_n (pc := 20) hx hb dX3_init_20 rfl (lv_at hl 0 rfl) ?_
  refine lv_iconst (pc := 21) (v := 0) hx hb dX3_init_21 (by decide) ?_
  refine va_put (pc := 22) (D := D) (ci := 3) (v := .int 0) (ty := .boolean) (C := RX3) (T := TX3) (N := 7) hx hb hts (fun w hw => wsU_in (uw_X3 w hw)) tyX3 tyX3_ok nmX3 hown hK hP hD hS 0 rfl rfl 6 (by decide) (hts _ (wsU_in fl_X3_18)) (fun _ h9 => h9) rfl (by decide +kernel) rfl rfl (Nat.le_of_ble_eq_true rfl) dX3_init_22 (fun H locs hP hD hS => ?_)
  have hP : va_P D vwCl [(h0, .inr (3, [.null, .null, .null, .null, .ref q1, .ref q2, .int 0])), (a2, .inr (1, [.ref a3, .ref a4, .ref a5, .ref a6, .ref a7, .int 0, .int 0, .int 0, .int (-9), .long 0])), (q1, .inl (cI, 15, .inl (fun _ => 0))), (q2, .inl (cI, 15, .inl (fun _ => 0)))] H := hP
  have hD : va_D A [(h0, .inr (3, [.null, .null, .null, .null, .ref q1, .ref q2, .int 0])), (a2, .inr (1, [.ref a3, .ref a4, .ref a5, .ref a6, .ref a7, .int 0, .int 0, .int 0, .int (-9), .long 0])), (q1, .inl (cI, 15, .inl (fun _ => 0))), (q2, .inl (cI, 15, .inl (fun _ => 0)))] := hD
  refine lv_aload_n (pc := 25) hx hb dX3_init_25 rfl (lv_at hl 0 rfl) ?_
  refine lv_aload_n (pc := 26) hx hb dX3_init_26 rfl (lv_at hl 1 rfl) ?_
  refine va_putF (pc := 27) (D := D) (ci := 3) (v := .ref a1) (ty := .object "JarCouncil$Course") (C := RX3) (T := TX3) (N := 7) hx hb hts (fun w hw => wsU_in (uw_X3 w hw)) tyX3 tyX3_ok nmX3 hown hK hP hD hS 0 rfl rfl 0 (by decide) (hts _ (wsU_in fl_X3_22)) (fun _ h9 => h9) rfl hin rfl (by decide +kernel) rfl rfl (Nat.le_of_ble_eq_true rfl) dX3_init_27 (fun H locs hP hD hS => ?_)
  have hP : va_P D vwCl [(h0, .inr (3, [.ref a1, .null, .null, .null, .ref q1, .ref q2, .int 0])), (a2, .inr (1, [.ref a3, .ref a4, .ref a5, .ref a6, .ref a7, .int 0, .int 0, .int 0, .int (-9), .long 0])), (q1, .inl (cI, 15, .inl (fun _ => 0))), (q2, .inl (cI, 15, .inl (fun _ => 0)))] H := hP
  have hD : va_D A [(h0, .inr (3, [.ref a1, .null, .null, .null, .ref q1, .ref q2, .int 0])), (a2, .inr (1, [.ref a3, .ref a4, .ref a5, .ref a6, .ref a7, .int 0, .int 0, .int 0, .int (-9), .long 0])), (q1, .inl (cI, 15, .inl (fun _ => 0))), (q2, .inl (cI, 15, .inl (fun _ => 0)))] := hD
  refine lv_aload_n (pc := 30) hx hb dX3_init_30 rfl (lv_at hl 0 rfl) ?_
  refine lv_aload_n (pc := 31) hx hb dX3_init_31 rfl (lv_at hl 2 rfl) ?_
  refine va_putF (pc := 32) (D := D) (ci := 3) (v := .ref a2) (ty := .object "JarCouncil$Day") (C := RX3) (T := TX3) (N := 7) hx hb hts (fun w hw => wsU_in (uw_X3 w hw)) tyX3 tyX3_ok nmX3 hown hK hP hD hS 0 rfl rfl 3 (by decide) (hts _ (wsU_in fl_X3_26)) (fun _ h9 => h9) rfl hin rfl (by decide +kernel) rfl rfl (Nat.le_of_ble_eq_true rfl) dX3_init_32 (fun H locs hP hD hS => ?_)
  have hP : va_P D vwCl [(h0, .inr (3, [.ref a1, .null, .null, .ref a2, .ref q1, .ref q2, .int 0])), (a2, .inr (1, [.ref a3, .ref a4, .ref a5, .ref a6, .ref a7, .int 0, .int 0, .int 0, .int (-9), .long 0])), (q1, .inl (cI, 15, .inl (fun _ => 0))), (q2, .inl (cI, 15, .inl (fun _ => 0)))] H := hP
  have hD : va_D A [(h0, .inr (3, [.ref a1, .null, .null, .ref a2, .ref q1, .ref q2, .int 0])), (a2, .inr (1, [.ref a3, .ref a4, .ref a5, .ref a6, .ref a7, .int 0, .int 0, .int 0, .int (-9), .long 0])), (q1, .inl (cI, 15, .inl (fun _ => 0))), (q2, .inl (cI, 15, .inl (fun _ => 0)))] := hD
  refine lv_aload_n (pc := 35) hx hb dX3_init_35 rfl (lv_at hl 0 rfl) ?_
  refine lv_aload_n (pc := 36) hx hb dX3_init_36 rfl (lv_at hl 2 rfl) ?_
  refine va_getN (pc := 37) (D := D) (ci := 1) (v := .ref a3) (C := RX1) (T := TX1) (N := 10) hx hb hts (fun w hw => wsU_in (uw_X1 w hw)) hown hK hP 1 rfl rfl 0 (by decide) (va_Nw.use rfl (hN _ fn_X3_30 rfl)) (fun _ h9 => h9) rfl dX3_init_37 ?_
  refine va_putF (pc := 40) (D := D) (ci := 3) (v := .ref a3) (ty := .object "JarCouncil$Plan") (C := RX3) (T := TX3) (N := 7) hx hb hts (fun w hw => wsU_in (uw_X3 w hw)) tyX3 tyX3_ok nmX3 hown hK hP hD hS 0 rfl rfl 2 (by decide) (hts _ (wsU_in fl_X3_36)) (fun _ h9 => h9) rfl hin rfl (by decide +kernel) rfl rfl (Nat.le_of_ble_eq_true rfl) dX3_init_40 (fun H locs hP hD hS => ?_)
  have hP : va_P D vwCl [(h0, .inr (3, [.ref a1, .null, .ref a3, .ref a2, .ref q1, .ref q2, .int 0])), (a2, .inr (1, [.ref a3, .ref a4, .ref a5, .ref a6, .ref a7, .int 0, .int 0, .int 0, .int (-9), .long 0])), (q1, .inl (cI, 15, .inl (fun _ => 0))), (q2, .inl (cI, 15, .inl (fun _ => 0)))] H := hP
  have hD : va_D A [(h0, .inr (3, [.ref a1, .null, .ref a3, .ref a2, .ref q1, .ref q2, .int 0])), (a2, .inr (1, [.ref a3, .ref a4, .ref a5, .ref a6, .ref a7, .int 0, .int 0, .int 0, .int (-9), .long 0])), (q1, .inl (cI, 15, .inl (fun _ => 0))), (q2, .inl (cI, 15, .inl (fun _ => 0)))] := hD
  refine lv_aload_n (pc := 43) hx hb dX3_init_43 rfl (lv_at hl 0 rfl) ?_
  refine lv_aload_n (pc := 44) hx hb dX3_init_44 rfl (lv_at hl 2 rfl) ?_
  refine va_getN (pc := 45) (D := D) (ci := 1) (v := .ref a4) (C := RX1) (T := TX1) (N := 10) hx hb hts (fun w hw => wsU_in (uw_X1 w hw)) hown hK hP 1 rfl rfl 1 (by decide) (va_Nw.use rfl (hN _ fn_X3_39 rfl)) (fun _ h9 => h9) rfl dX3_init_45 ?_
  refine va_putF (pc := 48) (D := D) (ci := 3) (v := .ref a4) (ty := .object "JarCouncil$Course") (C := RX3) (T := TX3) (N := 7) hx hb hts (fun w hw => wsU_in (uw_X3 w hw)) tyX3 tyX3_ok nmX3 hown hK hP hD hS 0 rfl rfl 1 (by decide) (hts _ (wsU_in fl_X3_42)) (fun _ h9 => h9) rfl hin rfl (by decide +kernel) rfl rfl (Nat.le_of_ble_eq_true rfl) dX3_init_48 (fun H locs hP hD hS => ?_)
  have hP : va_P D vwCl [(h0, .inr (3, [.ref a1, .ref a4, .ref a3, .ref a2, .ref q1, .ref q2, .int 0])), (a2, .inr (1, [.ref a3, .ref a4, .ref a5, .ref a6, .ref a7, .int 0, .int 0, .int 0, .int (-9), .long 0])), (q1, .inl (cI, 15, .inl (fun _ => 0))), (q2, .inl (cI, 15, .inl (fun _ => 0)))] H := hP
  have hD : va_D A [(h0, .inr (3, [.ref a1, .ref a4, .ref a3, .ref a2, .ref q1, .ref q2, .int 0])), (a2, .inr (1, [.ref a3, .ref a4, .ref a5, .ref a6, .ref a7, .int 0, .int 0, .int 0, .int (-9), .long 0])), (q1, .inl (cI, 15, .inl (fun _ => 0))), (q2, .inl (cI, 15, .inl (fun _ => 0)))] := hD
  refine W.widen (k := 2) (n := 30) (Nat.le_of_ble_eq_true rfl) (Nat.le_of_ble_eq_true rfl) ?_
  exact W.vret hx hb hr (fun t ht hW => ⟨⟨(q1, q2), rfl, trivial, by rw [ht]; exact hP, hD⟩, hS.F ht⟩) hS.2.2 dX3_init_51
def sC0 : HS := (fun k => match k with
  | 2 => upd (upd (upd (upd (fun _ => 0) 0 (-1)) 1 (-1)) 2 (-1)) 3 (-1)
  | 19 => fun j => if j = 5 then -1 else 0
  | 27 => fun j => if j = 8 then -9 else 0
  | 37 => fun j => if j = 8 then -9 else 0
  | _ => fun _ => 0, fun _ _ => 0)
def sM0 : HS := (fun k => match k with
  | 21 => upd (upd (upd (upd (fun _ => 0) 0 (-1)) 1 (-1)) 2 (-1)) 3 (-1)
  | _ => fun _ => 0, fun _ _ => 0)
