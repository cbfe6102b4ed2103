/-! THE LAW'S METHODS. LA: rows of ints that the law makes (address, length, contents); the world is the class's cells and these; ro: rows that are only read -/
abbrev LA : Type := List (Nat × Nat × (Nat → Int32))
def waE (cI : ClassId) (q : Nat × Nat × (Nat → Int32)) : Nat × va_E := (q.1, .inl (cI, q.2.1, .inl q.2.2))
def wa (cI : ClassId) (as : LA) : va_W := as.map (waE cI)
theorem wa_get (cI : ClassId) (as : LA) (k : Nat) : (wa cI as)[k]? = (as[k]?).map (waE cI) := by simp [wa]
theorem wa_at {cI : ClassId} {as : LA} {k : Nat} {x : Nat × Nat × (Nat → Int32)} (h : as[k]? = some x) : (wa cI as)[k]? = some (waE cI x) := by rw [wa_get, h]; rfl
theorem wa_app (cI : ClassId) (a b : LA) : wa cI (a ++ b) = wa cI a ++ wa cI b := by simp [wa]
theorem wdg_len (cI cL : ClassId) (ad : Nat → Nat) (σ : HS) : ∀ (S : Shp) (k : Nat), (wdg cI cL ad σ k S).length = S.length := by
  intro S
  induction S with
  | nil => intro k; rfl
  | cons d S ih => intro k; simp [wdg, ih]
theorem wdSC_len (cI cL : ClassId) (ad : Nat → Nat) (σ : HS) : (wd SC cI cL ad σ).length = 47 := by unfold wd; rw [wdg_len]; rfl
/-- the law's world -/
abbrev lw2 (cI cL : ClassId) (ad : Nat → Nat) (σ : HS) (as : LA) : va_W := wd SC cI cL ad σ ++ wa cI as
theorem lw2_at {cI cL : ClassId} {ad : Nat → Nat} {σ : HS} {as : LA} {j : Nat} {x : Nat × Nat × (Nat → Int32)} (h : as[j]? = some x) : (lw2 cI cL ad σ as)[47 + j]? = some (waE cI x) := by
  rw [List.getElem?_append_right (by rw [wdSC_len]; omega), wdSC_len, Nat.add_sub_cancel_left]; exact wa_at h
theorem lw2_of {cI cL : ClassId} {ad : Nat → Nat} {σ : HS} {as : LA} {k : Nat} {x : Nat × va_E} (h : (lw2 cI cL ad σ as)[k]? = some x) : (k < 47 ∧ (wd SC cI cL ad σ)[k]? = some x) ∨ (47 ≤ k ∧ ∃ y, as[k - 47]? = some y ∧ x = waE cI y) := by
  by_cases hk : k < 47
  · rw [List.getElem?_append_left (by rw [wdSC_len]; exact hk)] at h; exact Or.inl ⟨hk, h⟩
  · rw [List.getElem?_append_right (by rw [wdSC_len]; omega), wdSC_len, wa_get] at h
    cases hy : as[k - 47]? with
    | none => rw [hy] at h; cases h
    | some y => rw [hy] at h; exact Or.inr ⟨by omega, y, rfl, (Option.some.inj h).symm⟩
theorem lw2_set (cI cL : ClassId) (ad : Nat → Nat) (σ : HS) (as : LA) (j q n : Nat) (f : Nat → Int32) : (lw2 cI cL ad σ as).set (47 + j) (q, .inl (cI, n, .inl f)) = lw2 cI cL ad σ (as.set j (q, n, f)) := by
  unfold lw2
  rw [List.set_append_right _ _ (by rw [wdSC_len]; omega), wdSC_len, Nat.add_sub_cancel_left]
  congr 1
  unfold wa
  rw [List.map_set]
  rfl
theorem va_D_same {A : Nat → Prop} {w1 w2 : va_W} (h : va_D A w1) (he : ∀ (k : Nat) (q : Nat × va_E), w2[k]? = some q → ∃ q0, w1[k]? = some q0 ∧ q0.1 = q.1) : va_D A w2 := by
  refine ⟨fun i j x y hi hj hxy => ?_, fun k q hk => ?_⟩
  · obtain ⟨x0, a1, a2⟩ := he i x hi
    obtain ⟨y0, b1, b2⟩ := he j y hj
    exact h.1 i j x0 y0 a1 b1 (by rw [a2, b2, hxy])
  · obtain ⟨q0, a1, a2⟩ := he k q hk
    rw [← a2]; exact h.2 k q0 a1
theorem wd_same {cI cL : ClassId} {ad : Nat → Nat} {σ σ' : HS} {k : Nat} {x : Nat × va_E} (hk : (wd SC cI cL ad σ)[k]? = some x) : ∃ y, (wd SC cI cL ad σ')[k]? = some y ∧ y.1 = x.1 := by
  rw [wd_get] at hk ⊢
  cases hS : SC[k]? with
  | none => rw [hS] at hk; cases hk
  | some d => rw [hS] at hk; cases hk; exact ⟨_, rfl, rfl⟩
theorem lw2_D {A : Nat → Prop} {cI cL : ClassId} {ad : Nat → Nat} {σ σ' : HS} {as : LA} (h : va_D A (lw2 cI cL ad σ as)) : va_D A (lw2 cI cL ad σ' as) := by
  refine va_D_same h (fun k q hk => ?_)
  rcases lw2_of hk with ⟨hl, h1⟩ | ⟨hl, y, h1, rfl⟩
  · obtain ⟨y, h2, h3⟩ := wd_same (σ' := σ) h1
    exact ⟨y, by rw [List.getElem?_append_left (by rw [wdSC_len]; exact hl)]; exact h2, h3⟩
  · refine ⟨waE cI y, ?_, rfl⟩
    have := lw2_at (cI := cI) (cL := cL) (ad := ad) (σ := σ) h1
    rw [show 47 + (k - 47) = k by omega] at this
    exact this
/-- what stays through the body of a method of the law -/
def LCtx (cc : ByteArray) (nL : Nat) (ret : Option FieldType) (Ts : List Cond) (ro : LA) (p : Program) (s : State) (m : MethodId) (args : Array Value) (meth : Method) (c : Code) (D : va_G) (cI cL : ClassId) (A : Nat → Prop) : Prop :=
  p.tables.exec = Jvm.exec ∧ c.code = cc ∧ c.maxLocals = nL ∧ meth.sig.returnType = ret ∧ s.vm.findClass RL = some m.cls ∧ meth.locks = false ∧ (∀ w ∈ Ts, w.before args s = true) ∧ (∀ w ∈ wsG, w ∈ Ts) ∧ NW s ∧ va_K D vwCl [(cI, .int), (cL, .long)] s ∧ (∀ x ∈ ro, va_X x.1 x.2.1 x.2.2 s s.heap ∧ x.1 < s.heap.size) ∧ (∀ x ∈ ro, ¬ A x.1) ∧ (∀ q : Nat, s.heap.size ≤ q → A q)
def LR (l : Launch) (cc : ByteArray) (nL : Nat) (ret : Option FieldType) (Ts : List Cond) (R : Room) (kb nb : Nat) (ad : Nat → Nat) (ro : LA) (E : Nat → List Value → HS → LA → Nat → Prop) (pc : Nat) (L : List (Nat × Value)) (st : List Value) (σ : HS) (as : LA) (g : Nat) : Prop :=
  ∀ (p : Program) (e : Env) (s : State) (m : MethodId) (args : Array Value) (below : List Frame) (meth : Method) (c : Code) (D : va_G) (cI cL : ClassId) (A : Nat → Prop) (Q : State → Prop), LCtx cc nL ret Ts ro p s m args meth c D cI cL A →
  (∀ (pc : Nat) (ls : Array Slot) (st : List Value) (σ : HS) (as : LA) (g : Nat) (H : Heap) (locs : List Loc), E pc st σ as g → va_P D vwCl (lw2 cI cL ad σ as) H → va_D A (lw2 cI cL ad zHS as) → va_S A s.heap H locs → kb + g ≤ R.cells ∧ nb + 80 * g ≤ R.slots → W p l e R s m args below meth c H locs (kb + g) (nb + 80 * g) Q (F0 m pc ls st)) →
  ∀ (H : Heap) (locs : List Loc) (ls : Array Slot), va_P D vwCl (lw2 cI cL ad σ as) H → va_D A (lw2 cI cL ad zHS as) → va_S A s.heap H locs → lv_has ls nL L → kb + g ≤ R.cells ∧ nb + 80 * g ≤ R.slots → W p l e R s m args below meth c H locs (kb + g) (nb + 80 * g) Q (F0 m pc ls st)
section LRrules
variable {l : Launch} {cc : ByteArray} {nL : Nat} {ret : Option FieldType} {Ts : List Cond} {R : Room} {kb nb : Nat} {ad : Nat → Nat} {ro : LA} {E : Nat → List Value → HS → LA → Nat → Prop} {pc : Nat} {L : List (Nat × Value)} {st : List Value} {σ : HS} {as : LA} {g : Nat}
theorem LR.iconst {n : Int} {v : Int32} (hd : decode cc pc = .ok (.iconst n, 1)) (hv : Int32.ofInt n = v) (h : LR l cc nL ret Ts R kb nb ad ro E (pc + 1) L (.int v :: st) σ as g) : LR l cc nL ret Ts R kb nb ad ro E pc L st σ as g := by
  intro p e s m args below meth c D cI cL A Q C hE H locs ls hP hD hS hl hG
  exact lv_iconst C.1 C.2.1 hd hv (h p e s m args below meth c D cI cL A Q C hE H locs ls hP hD hS hl hG)
theorem LR.bipush {n : Int} {v : Int32} (hd : decode cc pc = .ok (.bipush n, 2)) (hv : (Int8.ofInt n).toInt32 = v) (h : LR l cc nL ret Ts R kb nb ad ro E (pc + 2) L (.int v :: st) σ as g) : LR l cc nL ret Ts R kb nb ad ro E pc L st σ as g := by
  intro p e s m args below meth c D cI cL A Q C hE H locs ls hP hD hS hl hG
  exact lv_bipush C.1 C.2.1 hd hv (h p e s m args below meth c D cI cL A Q C hE H locs ls hP hD hS hl hG)
theorem LR.sipush {n : Int} {v : Int32} (hd : decode cc pc = .ok (.sipush n, 3)) (hv : (Int16.ofInt n).toInt32 = v) (h : LR l cc nL ret Ts R kb nb ad ro E (pc + 3) L (.int v :: st) σ as g) : LR l cc nL ret Ts R kb nb ad ro E pc L st σ as g := by
  intro p e s m args below meth c D cI cL A Q C hE H locs ls hP hD hS hl hG
  exact lv_sipush C.1 C.2.1 hd hv (h p e s m args below meth c D cI cL A Q C hE H locs ls hP hD hS hl hG)
theorem LR.lconst {n : Fin 2} {v : Int64} (hd : decode cc pc = .ok (.lconst n, 1)) (hv : Int64.ofNat (n : Nat) = v) (h : LR l cc nL ret Ts R kb nb ad ro E (pc + 1) L (.long v :: st) σ as g) : LR l cc nL ret Ts R kb nb ad ro E pc L st σ as g := by
  intro p e s m args below meth c D cI cL A Q C hE H locs ls hP hD hS hl hG
  exact lv_lconst C.1 C.2.1 hd hv (h p e s m args below meth c D cI cL A Q C hE H locs ls hP hD hS hl hG)
theorem LR.ldc {idx : Nat} {v : Int32} (hd : decode cc pc = .ok (.ldc idx, 2)) (hw : Cond.constant RL idx v ∈ wsG) (h : LR l cc nL ret Ts R kb nb ad ro E (pc + 2) L (.int v :: st) σ as g) : LR l cc nL ret Ts R kb nb ad ro E pc L st σ as g := by
  intro p e s m args below meth c D cI cL A Q C hE H locs ls hP hD hS hl hG
  exact lv_ldc C.1 C.2.1 C.2.2.2.2.1 (C.2.2.2.2.2.2.1 _ (C.2.2.2.2.2.2.2.1 _ hw)) hd (h p e s m args below meth c D cI cL A Q C hE H locs ls hP hD hS hl hG)
theorem LR.ldc2 {idx : Nat} {v : Int64} (hd : decode cc pc = .ok (.ldc2_w idx, 3)) (hw : Cond.constantLong RL idx v ∈ wsG) (h : LR l cc nL ret Ts R kb nb ad ro E (pc + 3) L (.long v :: st) σ as g) : LR l cc nL ret Ts R kb nb ad ro E pc L st σ as g := by
  intro p e s m args below meth c D cI cL A Q C hE H locs ls hP hD hS hl hG
  exact lv_ldc2 C.1 C.2.1 C.2.2.2.2.1 (C.2.2.2.2.2.2.1 _ (C.2.2.2.2.2.2.2.1 _ hw)) hd (h p e s m args below meth c D cI cL A Q C hE H locs ls hP hD hS hl hG)
theorem LR.iload_n {k : Fin 4} {i j : Nat} {x : Int32} (hd : decode cc pc = .ok (.iload_n k, 1)) (hi : (k : Nat) = i) (hL : L[j]? = some (i, .int x)) (h : LR l cc nL ret Ts R kb nb ad ro E (pc + 1) L (.int x :: st) σ as g) : LR l cc nL ret Ts R kb nb ad ro E pc L st σ as g := by
  intro p e s m args below meth c D cI cL A Q C hE H locs ls hP hD hS hl hG
  exact lv_iload_n C.1 C.2.1 hd hi (lv_at hl j hL) (h p e s m args below meth c D cI cL A Q C hE H locs ls hP hD hS hl hG)
theorem LR.iload {i j : Nat} {x : Int32} (hd : decode cc pc = .ok (.iload i, 2)) (hL : L[j]? = some (i, .int x)) (h : LR l cc nL ret Ts R kb nb ad ro E (pc + 2) L (.int x :: st) σ as g) : LR l cc nL ret Ts R kb nb ad ro E pc L st σ as g := by
  intro p e s m args below meth c D cI cL A Q C hE H locs ls hP hD hS hl hG
  exact lv_iload C.1 C.2.1 hd (lv_at hl j hL) (h p e s m args below meth c D cI cL A Q C hE H locs ls hP hD hS hl hG)
theorem LR.lload_n {k : Fin 4} {i j : Nat} {x : Int64} (hd : decode cc pc = .ok (.lload_n k, 1)) (hi : (k : Nat) = i) (hL : L[j]? = some (i, .long x)) (h : LR l cc nL ret Ts R kb nb ad ro E (pc + 1) L (.long x :: st) σ as g) : LR l cc nL ret Ts R kb nb ad ro E pc L st σ as g := by
  intro p e s m args below meth c D cI cL A Q C hE H locs ls hP hD hS hl hG
  exact lv_lload_n C.1 C.2.1 hd hi (lv_at hl j hL) (h p e s m args below meth c D cI cL A Q C hE H locs ls hP hD hS hl hG)
theorem LR.lload {i j : Nat} {x : Int64} (hd : decode cc pc = .ok (.lload i, 2)) (hL : L[j]? = some (i, .long x)) (h : LR l cc nL ret Ts R kb nb ad ro E (pc + 2) L (.long x :: st) σ as g) : LR l cc nL ret Ts R kb nb ad ro E pc L st σ as g := by
  intro p e s m args below meth c D cI cL A Q C hE H locs ls hP hD hS hl hG
  exact lv_lload C.1 C.2.1 hd (lv_at hl j hL) (h p e s m args below meth c D cI cL A Q C hE H locs ls hP hD hS hl hG)
theorem LR.aload_n {k : Fin 4} {i j : Nat} {x : Nat} (hd : decode cc pc = .ok (.aload_n k, 1)) (hi : (k : Nat) = i) (hL : L[j]? = some (i, .ref x)) (h : LR l cc nL ret Ts R kb nb ad ro E (pc + 1) L (.ref x :: st) σ as g) : LR l cc nL ret Ts R kb nb ad ro E pc L st σ as g := by
  intro p e s m args below meth c D cI cL A Q C hE H locs ls hP hD hS hl hG
  exact lv_aload_n C.1 C.2.1 hd hi (lv_at hl j hL) (h p e s m args below meth c D cI cL A Q C hE H locs ls hP hD hS hl hG)
theorem LR.aload {i j : Nat} {x : Nat} (hd : decode cc pc = .ok (.aload i, 2)) (hL : L[j]? = some (i, .ref x)) (h : LR l cc nL ret Ts R kb nb ad ro E (pc + 2) L (.ref x :: st) σ as g) : LR l cc nL ret Ts R kb nb ad ro E pc L st σ as g := by
  intro p e s m args below meth c D cI cL A Q C hE H locs ls hP hD hS hl hG
  exact lv_aload C.1 C.2.1 hd (lv_at hl j hL) (h p e s m args below meth c D cI cL A Q C hE H locs ls hP hD hS hl hG)
theorem LR.istore_n {k : Fin 4} {i : Nat} {x : Int32} {L2 : List (Nat × Value)} (hd : decode cc pc = .ok (.istore_n k, 1)) (hi : (k : Nat) = i) (hn : i < nL) (hL : sto1 i (.int x) L = L2) (h : LR l cc nL ret Ts R kb nb ad ro E (pc + 1) L2 st σ as g) : LR l cc nL ret Ts R kb nb ad ro E pc L (.int x :: st) σ as g := by
  intro p e s m args below meth c D cI cL A Q C hE H locs ls hP hD hS hl hG
  exact lv_istore_n C.1 C.2.1 hd hi hl hn rfl (fun ls2 hl2 => h p e s m args below meth c D cI cL A Q C hE H locs ls2 hP hD hS (hL ▸ hl2) hG)
theorem LR.istore {i : Nat} {x : Int32} {L2 : List (Nat × Value)} (hd : decode cc pc = .ok (.istore i, 2)) (hn : i < nL) (hL : sto1 i (.int x) L = L2) (h : LR l cc nL ret Ts R kb nb ad ro E (pc + 2) L2 st σ as g) : LR l cc nL ret Ts R kb nb ad ro E pc L (.int x :: st) σ as g := by
  intro p e s m args below meth c D cI cL A Q C hE H locs ls hP hD hS hl hG
  exact lv_istore C.1 C.2.1 hd hl hn rfl (fun ls2 hl2 => h p e s m args below meth c D cI cL A Q C hE H locs ls2 hP hD hS (hL ▸ hl2) hG)
theorem LR.lstore_n {k : Fin 4} {i : Nat} {x : Int64} {L2 : List (Nat × Value)} (hd : decode cc pc = .ok (.lstore_n k, 1)) (hi : (k : Nat) = i) (hn : i + 1 < nL) (hL : sto2 i (.long x) L = L2) (h : LR l cc nL ret Ts R kb nb ad ro E (pc + 1) L2 st σ as g) : LR l cc nL ret Ts R kb nb ad ro E pc L (.long x :: st) σ as g := by
  intro p e s m args below meth c D cI cL A Q C hE H locs ls hP hD hS hl hG
  exact lv_lstore_n C.1 C.2.1 hd hi hl hn rfl (fun ls2 hl2 => h p e s m args below meth c D cI cL A Q C hE H locs ls2 hP hD hS (hL ▸ hl2) hG)
theorem LR.lstore {i : Nat} {x : Int64} {L2 : List (Nat × Value)} (hd : decode cc pc = .ok (.lstore i, 2)) (hn : i + 1 < nL) (hL : sto2 i (.long x) L = L2) (h : LR l cc nL ret Ts R kb nb ad ro E (pc + 2) L2 st σ as g) : LR l cc nL ret Ts R kb nb ad ro E pc L (.long x :: st) σ as g := by
  intro p e s m args below meth c D cI cL A Q C hE H locs ls hP hD hS hl hG
  exact lv_lstore C.1 C.2.1 hd hl hn rfl (fun ls2 hl2 => h p e s m args below meth c D cI cL A Q C hE H locs ls2 hP hD hS (hL ▸ hl2) hG)
theorem LR.astore_n {k : Fin 4} {i : Nat} {x : Nat} {L2 : List (Nat × Value)} (hd : decode cc pc = .ok (.astore_n k, 1)) (hi : (k : Nat) = i) (hn : i < nL) (hL : sto1 i (.ref x) L = L2) (h : LR l cc nL ret Ts R kb nb ad ro E (pc + 1) L2 st σ as g) : LR l cc nL ret Ts R kb nb ad ro E pc L (.ref x :: st) σ as g := by
  intro p e s m args below meth c D cI cL A Q C hE H locs ls hP hD hS hl hG
  exact lv_astore_n C.1 C.2.1 hd hi hl hn rfl (fun ls2 hl2 => h p e s m args below meth c D cI cL A Q C hE H locs ls2 hP hD hS (hL ▸ hl2) hG)
theorem LR.astore {i : Nat} {x : Nat} {L2 : List (Nat × Value)} (hd : decode cc pc = .ok (.astore i, 2)) (hn : i < nL) (hL : sto1 i (.ref x) L = L2) (h : LR l cc nL ret Ts R kb nb ad ro E (pc + 2) L2 st σ as g) : LR l cc nL ret Ts R kb nb ad ro E pc L (.ref x :: st) σ as g := by
  intro p e s m args below meth c D cI cL A Q C hE H locs ls hP hD hS hl hG
  exact lv_astore C.1 C.2.1 hd hl hn rfl (fun ls2 hl2 => h p e s m args below meth c D cI cL A Q C hE H locs ls2 hP hD hS (hL ▸ hl2) hG)
theorem LR.iinc {i j : Nat} {n : Int} {x v : Int32} {L2 : List (Nat × Value)} (hd : decode cc pc = .ok (.iinc i n, 3)) (hL : L[j]? = some (i, .int x)) (hv : x + Int32.ofInt n = v) (hn : i < nL) (hL2 : sto1 i (.int v) L = L2) (h : LR l cc nL ret Ts R kb nb ad ro E (pc + 3) L2 st σ as g) : LR l cc nL ret Ts R kb nb ad ro E pc L st σ as g := by
  intro p e s m args below meth c D cI cL A Q C hE H locs ls hP hD hS hl hG
  exact lv_iinc C.1 C.2.1 hd hl hL hv hn rfl (fun ls2 hl2 => h p e s m args below meth c D cI cL A Q C hE H locs ls2 hP hD hS (hL2 ▸ hl2) hG)
theorem LR.iadd {x y : Int32} (hd : decode cc pc = .ok (.iadd, 1)) (h : LR l cc nL ret Ts R kb nb ad ro E (pc + 1) L (.int (x + y) :: st) σ as g) : LR l cc nL ret Ts R kb nb ad ro E pc L (.int y :: .int x :: st) σ as g := by
  intro p e s m args below meth c D cI cL A Q C hE H locs ls hP hD hS hl hG
  exact lv_iadd C.1 C.2.1 hd (h p e s m args below meth c D cI cL A Q C hE H locs ls hP hD hS hl hG)
theorem LR.isub {x y : Int32} (hd : decode cc pc = .ok (.isub, 1)) (h : LR l cc nL ret Ts R kb nb ad ro E (pc + 1) L (.int (x - y) :: st) σ as g) : LR l cc nL ret Ts R kb nb ad ro E pc L (.int y :: .int x :: st) σ as g := by
  intro p e s m args below meth c D cI cL A Q C hE H locs ls hP hD hS hl hG
  exact lv_isub C.1 C.2.1 hd (h p e s m args below meth c D cI cL A Q C hE H locs ls hP hD hS hl hG)
theorem LR.imul {x y : Int32} (hd : decode cc pc = .ok (.imul, 1)) (h : LR l cc nL ret Ts R kb nb ad ro E (pc + 1) L (.int (x * y) :: st) σ as g) : LR l cc nL ret Ts R kb nb ad ro E pc L (.int y :: .int x :: st) σ as g := by
  intro p e s m args below meth c D cI cL A Q C hE H locs ls hP hD hS hl hG
  exact lv_imul C.1 C.2.1 hd (h p e s m args below meth c D cI cL A Q C hE H locs ls hP hD hS hl hG)
theorem LR.iand {x y : Int32} (hd : decode cc pc = .ok (.iand, 1)) (h : LR l cc nL ret Ts R kb nb ad ro E (pc + 1) L (.int (x &&& y) :: st) σ as g) : LR l cc nL ret Ts R kb nb ad ro E pc L (.int y :: .int x :: st) σ as g := by
  intro p e s m args below meth c D cI cL A Q C hE H locs ls hP hD hS hl hG
  exact lv_iand C.1 C.2.1 hd (h p e s m args below meth c D cI cL A Q C hE H locs ls hP hD hS hl hG)
theorem LR.ior {x y : Int32} (hd : decode cc pc = .ok (.ior, 1)) (h : LR l cc nL ret Ts R kb nb ad ro E (pc + 1) L (.int (x ||| y) :: st) σ as g) : LR l cc nL ret Ts R kb nb ad ro E pc L (.int y :: .int x :: st) σ as g := by
  intro p e s m args below meth c D cI cL A Q C hE H locs ls hP hD hS hl hG
  exact lv_ior C.1 C.2.1 hd (h p e s m args below meth c D cI cL A Q C hE H locs ls hP hD hS hl hG)
theorem LR.ladd {x y : Int64} (hd : decode cc pc = .ok (.ladd, 1)) (h : LR l cc nL ret Ts R kb nb ad ro E (pc + 1) L (.long (x + y) :: st) σ as g) : LR l cc nL ret Ts R kb nb ad ro E pc L (.long y :: .long x :: st) σ as g := by
  intro p e s m args below meth c D cI cL A Q C hE H locs ls hP hD hS hl hG
  exact lv_ladd C.1 C.2.1 hd (h p e s m args below meth c D cI cL A Q C hE H locs ls hP hD hS hl hG)
theorem LR.lsub {x y : Int64} (hd : decode cc pc = .ok (.lsub, 1)) (h : LR l cc nL ret Ts R kb nb ad ro E (pc + 1) L (.long (x - y) :: st) σ as g) : LR l cc nL ret Ts R kb nb ad ro E pc L (.long y :: .long x :: st) σ as g := by
  intro p e s m args below meth c D cI cL A Q C hE H locs ls hP hD hS hl hG
  exact lv_lsub C.1 C.2.1 hd (h p e s m args below meth c D cI cL A Q C hE H locs ls hP hD hS hl hG)
theorem LR.lmul {x y : Int64} (hd : decode cc pc = .ok (.lmul, 1)) (h : LR l cc nL ret Ts R kb nb ad ro E (pc + 1) L (.long (x * y) :: st) σ as g) : LR l cc nL ret Ts R kb nb ad ro E pc L (.long y :: .long x :: st) σ as g := by
  intro p e s m args below meth c D cI cL A Q C hE H locs ls hP hD hS hl hG
  exact lv_lmul C.1 C.2.1 hd (h p e s m args below meth c D cI cL A Q C hE H locs ls hP hD hS hl hG)
theorem LR.ishl {x y : Int32} (hd : decode cc pc = .ok (.ishl, 1)) (h : LR l cc nL ret Ts R kb nb ad ro E (pc + 1) L (.int (x <<< (y &&& 31)) :: st) σ as g) : LR l cc nL ret Ts R kb nb ad ro E pc L (.int y :: .int x :: st) σ as g := by
  intro p e s m args below meth c D cI cL A Q C hE H locs ls hP hD hS hl hG
  exact lv_ishl C.1 C.2.1 hd (h p e s m args below meth c D cI cL A Q C hE H locs ls hP hD hS hl hG)
theorem LR.ishr {x y : Int32} (hd : decode cc pc = .ok (.ishr, 1)) (h : LR l cc nL ret Ts R kb nb ad ro E (pc + 1) L (.int (x >>> (y &&& 31)) :: st) σ as g) : LR l cc nL ret Ts R kb nb ad ro E pc L (.int y :: .int x :: st) σ as g := by
  intro p e s m args below meth c D cI cL A Q C hE H locs ls hP hD hS hl hG
  exact lv_ishr C.1 C.2.1 hd (h p e s m args below meth c D cI cL A Q C hE H locs ls hP hD hS hl hG)
theorem LR.idiv {x y : Int32} (hd : decode cc pc = .ok (.idiv, 1)) (hne : ¬ y = 0) (h : LR l cc nL ret Ts R kb nb ad ro E (pc + 1) L (.int (x / y) :: st) σ as g) : LR l cc nL ret Ts R kb nb ad ro E pc L (.int y :: .int x :: st) σ as g := by
  intro p e s m args below meth c D cI cL A Q C hE H locs ls hP hD hS hl hG
  exact lv_idiv C.1 C.2.1 hd hne (h p e s m args below meth c D cI cL A Q C hE H locs ls hP hD hS hl hG)
theorem LR.irem {x y : Int32} (hd : decode cc pc = .ok (.irem, 1)) (hne : ¬ y = 0) (h : LR l cc nL ret Ts R kb nb ad ro E (pc + 1) L (.int (x - x / y * y) :: st) σ as g) : LR l cc nL ret Ts R kb nb ad ro E pc L (.int y :: .int x :: st) σ as g := by
  intro p e s m args below meth c D cI cL A Q C hE H locs ls hP hD hS hl hG
  exact lv_irem C.1 C.2.1 hd hne (h p e s m args below meth c D cI cL A Q C hE H locs ls hP hD hS hl hG)
theorem LR.ldiv {x y : Int64} (hd : decode cc pc = .ok (.ldiv, 1)) (hne : ¬ y = 0) (h : LR l cc nL ret Ts R kb nb ad ro E (pc + 1) L (.long (x / y) :: st) σ as g) : LR l cc nL ret Ts R kb nb ad ro E pc L (.long y :: .long x :: st) σ as g := by
  intro p e s m args below meth c D cI cL A Q C hE H locs ls hP hD hS hl hG
  exact lv_ldiv C.1 C.2.1 hd hne (h p e s m args below meth c D cI cL A Q C hE H locs ls hP hD hS hl hG)
theorem LR.lrem {x y : Int64} (hd : decode cc pc = .ok (.lrem, 1)) (hne : ¬ y = 0) (h : LR l cc nL ret Ts R kb nb ad ro E (pc + 1) L (.long (x - x / y * y) :: st) σ as g) : LR l cc nL ret Ts R kb nb ad ro E pc L (.long y :: .long x :: st) σ as g := by
  intro p e s m args below meth c D cI cL A Q C hE H locs ls hP hD hS hl hG
  exact lv_lrem C.1 C.2.1 hd hne (h p e s m args below meth c D cI cL A Q C hE H locs ls hP hD hS hl hG)
theorem LR.i2l {x : Int32} (hd : decode cc pc = .ok (.i2l, 1)) (h : LR l cc nL ret Ts R kb nb ad ro E (pc + 1) L (.long x.toInt64 :: st) σ as g) : LR l cc nL ret Ts R kb nb ad ro E pc L (.int x :: st) σ as g := by
  intro p e s m args below meth c D cI cL A Q C hE H locs ls hP hD hS hl hG
  exact lv_i2l C.1 C.2.1 hd rfl (h p e s m args below meth c D cI cL A Q C hE H locs ls hP hD hS hl hG)
theorem LR.lcmp {x y : Int64} (hd : decode cc pc = .ok (.lcmp, 1)) (h : LR l cc nL ret Ts R kb nb ad ro E (pc + 1) L (.int (lg_cmp x y) :: st) σ as g) : LR l cc nL ret Ts R kb nb ad ro E pc L (.long y :: .long x :: st) σ as g := by
  intro p e s m args below meth c D cI cL A Q C hE H locs ls hP hD hS hl hG
  exact W.lcmp C.1 C.2.1 hd (h p e s m args below meth c D cI cL A Q C hE H locs ls hP hD hS hl hG)
theorem LR.dup {va : Value} (hd : decode cc pc = .ok (.dup, 1)) (hc : va.category = 1) (h : LR l cc nL ret Ts R kb nb ad ro E (pc + 1) L (va :: va :: st) σ as g) : LR l cc nL ret Ts R kb nb ad ro E pc L (va :: st) σ as g := by
  intro p e s m args below meth c D cI cL A Q C hE H locs ls hP hD hS hl hG
  exact lv_dup C.1 C.2.1 hd hc (h p e s m args below meth c D cI cL A Q C hE H locs ls hP hD hS hl hG)
theorem LR.dup2 {va vb : Value} (hd : decode cc pc = .ok (.dup2, 1)) (hc : va.category = 1) (hc2 : vb.category = 1) (h : LR l cc nL ret Ts R kb nb ad ro E (pc + 1) L (va :: vb :: va :: vb :: st) σ as g) : LR l cc nL ret Ts R kb nb ad ro E pc L (va :: vb :: st) σ as g := by
  intro p e s m args below meth c D cI cL A Q C hE H locs ls hP hD hS hl hG
  exact lv_dup2_11 C.1 C.2.1 hd hc hc2 (h p e s m args below meth c D cI cL A Q C hE H locs ls hP hD hS hl hG)
theorem LR.goto {off : Int} {tgt : Nat} (hd : decode cc pc = .ok (.goto off, 3)) (ht : (pc : Int) + off = (tgt : Int)) (h : LR l cc nL ret Ts R kb nb ad ro E (tgt) L st σ as g) : LR l cc nL ret Ts R kb nb ad ro E pc L st σ as g := by
  intro p e s m args below meth c D cI cL A Q C hE H locs ls hP hD hS hl hG
  exact lv_goto C.1 C.2.1 hd ht (h p e s m args below meth c D cI cL A Q C hE H locs ls hP hD hS hl hG)
theorem LR.if_eq {x : Int32} {off : Int} {tgt : Nat} (hd : decode cc pc = .ok (.ifCond .eq off, 3)) (ht : (pc : Int) + off = (tgt : Int)) (kt : x = 0 → LR l cc nL ret Ts R kb nb ad ro E tgt L st σ as g) (kf : ¬ x = 0 → LR l cc nL ret Ts R kb nb ad ro E (pc + 3) L st σ as g) : LR l cc nL ret Ts R kb nb ad ro E pc L (.int x :: st) σ as g := by
  intro p e s m args below meth c D cI cL A Q C hE H locs ls hP hD hS hl hG
  exact lv_if_eq C.1 C.2.1 hd ht (fun z => kt z p e s m args below meth c D cI cL A Q C hE H locs ls hP hD hS hl hG) (fun z => kf z p e s m args below meth c D cI cL A Q C hE H locs ls hP hD hS hl hG)
theorem LR.icmp_eq {x y : Int32} {off : Int} {tgt : Nat} (hd : decode cc pc = .ok (.if_icmp .eq off, 3)) (ht : (pc : Int) + off = (tgt : Int)) (kt : x = y → LR l cc nL ret Ts R kb nb ad ro E tgt L st σ as g) (kf : ¬ x = y → LR l cc nL ret Ts R kb nb ad ro E (pc + 3) L st σ as g) : LR l cc nL ret Ts R kb nb ad ro E pc L (.int y :: .int x :: st) σ as g := by
  intro p e s m args below meth c D cI cL A Q C hE H locs ls hP hD hS hl hG
  exact lv_icmp_eq C.1 C.2.1 hd ht (fun z => kt z p e s m args below meth c D cI cL A Q C hE H locs ls hP hD hS hl hG) (fun z => kf z p e s m args below meth c D cI cL A Q C hE H locs ls hP hD hS hl hG)
theorem LR.if_ne {x : Int32} {off : Int} {tgt : Nat} (hd : decode cc pc = .ok (.ifCond .ne off, 3)) (ht : (pc : Int) + off = (tgt : Int)) (kt : ¬ x = 0 → LR l cc nL ret Ts R kb nb ad ro E tgt L st σ as g) (kf : x = 0 → LR l cc nL ret Ts R kb nb ad ro E (pc + 3) L st σ as g) : LR l cc nL ret Ts R kb nb ad ro E pc L (.int x :: st) σ as g := by
  intro p e s m args below meth c D cI cL A Q C hE H locs ls hP hD hS hl hG
  exact lv_if_ne C.1 C.2.1 hd ht (fun z => kt z p e s m args below meth c D cI cL A Q C hE H locs ls hP hD hS hl hG) (fun z => kf z p e s m args below meth c D cI cL A Q C hE H locs ls hP hD hS hl hG)
theorem LR.icmp_ne {x y : Int32} {off : Int} {tgt : Nat} (hd : decode cc pc = .ok (.if_icmp .ne off, 3)) (ht : (pc : Int) + off = (tgt : Int)) (kt : ¬ x = y → LR l cc nL ret Ts R kb nb ad ro E tgt L st σ as g) (kf : x = y → LR l cc nL ret Ts R kb nb ad ro E (pc + 3) L st σ as g) : LR l cc nL ret Ts R kb nb ad ro E pc L (.int y :: .int x :: st) σ as g := by
  intro p e s m args below meth c D cI cL A Q C hE H locs ls hP hD hS hl hG
  exact lv_icmp_ne C.1 C.2.1 hd ht (fun z => kt z p e s m args below meth c D cI cL A Q C hE H locs ls hP hD hS hl hG) (fun z => kf z p e s m args below meth c D cI cL A Q C hE H locs ls hP hD hS hl hG)
theorem LR.if_lt {x : Int32} {off : Int} {tgt : Nat} (hd : decode cc pc = .ok (.ifCond .lt off, 3)) (ht : (pc : Int) + off = (tgt : Int)) (kt : x < 0 → LR l cc nL ret Ts R kb nb ad ro E tgt L st σ as g) (kf : ¬ x < 0 → LR l cc nL ret Ts R kb nb ad ro E (pc + 3) L st σ as g) : LR l cc nL ret Ts R kb nb ad ro E pc L (.int x :: st) σ as g := by
  intro p e s m args below meth c D cI cL A Q C hE H locs ls hP hD hS hl hG
  exact lv_if_lt C.1 C.2.1 hd ht (fun z => kt z p e s m args below meth c D cI cL A Q C hE H locs ls hP hD hS hl hG) (fun z => kf z p e s m args below meth c D cI cL A Q C hE H locs ls hP hD hS hl hG)
theorem LR.icmp_lt {x y : Int32} {off : Int} {tgt : Nat} (hd : decode cc pc = .ok (.if_icmp .lt off, 3)) (ht : (pc : Int) + off = (tgt : Int)) (kt : x < y → LR l cc nL ret Ts R kb nb ad ro E tgt L st σ as g) (kf : ¬ x < y → LR l cc nL ret Ts R kb nb ad ro E (pc + 3) L st σ as g) : LR l cc nL ret Ts R kb nb ad ro E pc L (.int y :: .int x :: st) σ as g := by
  intro p e s m args below meth c D cI cL A Q C hE H locs ls hP hD hS hl hG
  exact lv_icmp_lt C.1 C.2.1 hd ht (fun z => kt z p e s m args below meth c D cI cL A Q C hE H locs ls hP hD hS hl hG) (fun z => kf z p e s m args below meth c D cI cL A Q C hE H locs ls hP hD hS hl hG)
theorem LR.if_ge {x : Int32} {off : Int} {tgt : Nat} (hd : decode cc pc = .ok (.ifCond .ge off, 3)) (ht : (pc : Int) + off = (tgt : Int)) (kt : 0 ≤ x → LR l cc nL ret Ts R kb nb ad ro E tgt L st σ as g) (kf : ¬ 0 ≤ x → LR l cc nL ret Ts R kb nb ad ro E (pc + 3) L st σ as g) : LR l cc nL ret Ts R kb nb ad ro E pc L (.int x :: st) σ as g := by
  intro p e s m args below meth c D cI cL A Q C hE H locs ls hP hD hS hl hG
  exact lv_if_ge C.1 C.2.1 hd ht (fun z => kt z p e s m args below meth c D cI cL A Q C hE H locs ls hP hD hS hl hG) (fun z => kf z p e s m args below meth c D cI cL A Q C hE H locs ls hP hD hS hl hG)
theorem LR.icmp_ge {x y : Int32} {off : Int} {tgt : Nat} (hd : decode cc pc = .ok (.if_icmp .ge off, 3)) (ht : (pc : Int) + off = (tgt : Int)) (kt : y ≤ x → LR l cc nL ret Ts R kb nb ad ro E tgt L st σ as g) (kf : ¬ y ≤ x → LR l cc nL ret Ts R kb nb ad ro E (pc + 3) L st σ as g) : LR l cc nL ret Ts R kb nb ad ro E pc L (.int y :: .int x :: st) σ as g := by
  intro p e s m args below meth c D cI cL A Q C hE H locs ls hP hD hS hl hG
  exact lv_icmp_ge C.1 C.2.1 hd ht (fun z => kt z p e s m args below meth c D cI cL A Q C hE H locs ls hP hD hS hl hG) (fun z => kf z p e s m args below meth c D cI cL A Q C hE H locs ls hP hD hS hl hG)
theorem LR.if_gt {x : Int32} {off : Int} {tgt : Nat} (hd : decode cc pc = .ok (.ifCond .gt off, 3)) (ht : (pc : Int) + off = (tgt : Int)) (kt : 0 < x → LR l cc nL ret Ts R kb nb ad ro E tgt L st σ as g) (kf : ¬ 0 < x → LR l cc nL ret Ts R kb nb ad ro E (pc + 3) L st σ as g) : LR l cc nL ret Ts R kb nb ad ro E pc L (.int x :: st) σ as g := by
  intro p e s m args below meth c D cI cL A Q C hE H locs ls hP hD hS hl hG
  exact lv_if_gt C.1 C.2.1 hd ht (fun z => kt z p e s m args below meth c D cI cL A Q C hE H locs ls hP hD hS hl hG) (fun z => kf z p e s m args below meth c D cI cL A Q C hE H locs ls hP hD hS hl hG)
theorem LR.icmp_gt {x y : Int32} {off : Int} {tgt : Nat} (hd : decode cc pc = .ok (.if_icmp .gt off, 3)) (ht : (pc : Int) + off = (tgt : Int)) (kt : y < x → LR l cc nL ret Ts R kb nb ad ro E tgt L st σ as g) (kf : ¬ y < x → LR l cc nL ret Ts R kb nb ad ro E (pc + 3) L st σ as g) : LR l cc nL ret Ts R kb nb ad ro E pc L (.int y :: .int x :: st) σ as g := by
  intro p e s m args below meth c D cI cL A Q C hE H locs ls hP hD hS hl hG
  exact lv_icmp_gt C.1 C.2.1 hd ht (fun z => kt z p e s m args below meth c D cI cL A Q C hE H locs ls hP hD hS hl hG) (fun z => kf z p e s m args below meth c D cI cL A Q C hE H locs ls hP hD hS hl hG)
theorem LR.if_le {x : Int32} {off : Int} {tgt : Nat} (hd : decode cc pc = .ok (.ifCond .le off, 3)) (ht : (pc : Int) + off = (tgt : Int)) (kt : x ≤ 0 → LR l cc nL ret Ts R kb nb ad ro E tgt L st σ as g) (kf : ¬ x ≤ 0 → LR l cc nL ret Ts R kb nb ad ro E (pc + 3) L st σ as g) : LR l cc nL ret Ts R kb nb ad ro E pc L (.int x :: st) σ as g := by
  intro p e s m args below meth c D cI cL A Q C hE H locs ls hP hD hS hl hG
  exact lv_if_le C.1 C.2.1 hd ht (fun z => kt z p e s m args below meth c D cI cL A Q C hE H locs ls hP hD hS hl hG) (fun z => kf z p e s m args below meth c D cI cL A Q C hE H locs ls hP hD hS hl hG)
theorem LR.icmp_le {x y : Int32} {off : Int} {tgt : Nat} (hd : decode cc pc = .ok (.if_icmp .le off, 3)) (ht : (pc : Int) + off = (tgt : Int)) (kt : x ≤ y → LR l cc nL ret Ts R kb nb ad ro E tgt L st σ as g) (kf : ¬ x ≤ y → LR l cc nL ret Ts R kb nb ad ro E (pc + 3) L st σ as g) : LR l cc nL ret Ts R kb nb ad ro E pc L (.int y :: .int x :: st) σ as g := by
  intro p e s m args below meth c D cI cL A Q C hE H locs ls hP hD hS hl hG
  exact lv_icmp_le C.1 C.2.1 hd ht (fun z => kt z p e s m args below meth c D cI cL A Q C hE H locs ls hP hD hS hl hG) (fun z => kf z p e s m args below meth c D cI cL A Q C hE H locs ls hP hD hS hl hG)
theorem LR.pick {L2 : List (Nat × Value)} (ks : List Nat) (hk : lv_pick L ks = L2) (h : LR l cc nL ret Ts R kb nb ad ro E pc L2 st σ as g) : LR l cc nL ret Ts R kb nb ad ro E pc L st σ as g := by
  intro p e s m args below meth c D cI cL A Q C hE H locs ls hP hD hS hl hG
  exact h p e s m args below meth c D cI cL A Q C hE H locs ls hP hD hS (lv_sub hl ks hk) hG
theorem map_idx {α : Type} {as as2 : List α} {is : List Nat} (hC : is.map (fun i => as[i]?) = as2.map some) {k : Nat} {x : α} (h : as2[k]? = some x) : ∃ i, is[k]? = some i ∧ as[i]? = some x := by
  have h1 : (is.map (fun i => as[i]?))[k]? = some (some x) := by rw [hC, List.getElem?_map, h]; rfl
  rw [List.getElem?_map] at h1
  cases hi : is[k]? with
  | none => rw [hi] at h1; cases h1
  | some i => rw [hi] at h1; exact ⟨i, rfl, Option.some.inj h1⟩
theorem lw2_subP {D : va_G} {cI cL : ClassId} {as as2 : LA} {H : Heap} {is : List Nat} (hC : is.map (fun i => as[i]?) = as2.map some) (hP : va_P D vwCl (lw2 cI cL ad σ as) H) : va_P D vwCl (lw2 cI cL ad σ as2) H := by
  intro k q hk
  rcases lw2_of hk with ⟨hl, h1⟩ | ⟨hl, y, h1, rfl⟩
  · exact hP k q (by rw [List.getElem?_append_left (by rw [wdSC_len]; exact hl)]; exact h1)
  · obtain ⟨i, -, hi⟩ := map_idx hC h1
    exact hP _ _ (lw2_at hi)
theorem lw2_subD {A : Nat → Prop} {cI cL : ClassId} {as as2 : LA} {is : List Nat} (hC : is.map (fun i => as[i]?) = as2.map some) (hn : va_nd is = true) (hD : va_D A (lw2 cI cL ad σ as)) : va_D A (lw2 cI cL ad σ as2) := by
  have key : ∀ (k : Nat) (q : Nat × va_E), (lw2 cI cL ad σ as2)[k]? = some q → ∃ j, (lw2 cI cL ad σ as)[j]? = some q ∧ ((k < 47 ∧ j = k) ∨ (47 ≤ k ∧ ∃ i, is[k - 47]? = some i ∧ j = 47 + i)) := by
    intro k q hk
    rcases lw2_of hk with ⟨hl, h1⟩ | ⟨hl, y, h1, rfl⟩
    · exact ⟨k, by rw [List.getElem?_append_left (by rw [wdSC_len]; exact hl)]; exact h1, Or.inl ⟨hl, rfl⟩⟩
    · obtain ⟨i, h2, hi⟩ := map_idx hC h1
      exact ⟨47 + i, lw2_at hi, Or.inr ⟨hl, i, h2, rfl⟩⟩
  refine ⟨fun i j x y hi hj hxy => ?_, fun k q hk => ?_⟩
  · obtain ⟨i2, a1, a2⟩ := key i x hi
    obtain ⟨j2, b1, b2⟩ := key j y hj
    have e := hD.1 i2 j2 x y a1 b1 hxy
    rcases a2 with ⟨c1, c2⟩ | ⟨c1, i3, c2, c3⟩ <;> rcases b2 with ⟨d1, d2⟩ | ⟨d1, j3, d2, d3⟩
    · omega
    · omega
    · omega
    · have e2 : i3 = j3 := by omega
      subst e2
      have := va_nd_inj is hn _ _ _ c2 d2
      omega
  · obtain ⟨j, h1, -⟩ := key k q hk
    exact hD.2 j q h1
theorem LR.sub {as2 : LA} (is : List Nat) (hC : is.map (fun i => as[i]?) = as2.map some) (hn : va_nd is = true) (h : LR l cc nL ret Ts R kb nb ad ro E pc L st σ as2 g) : LR l cc nL ret Ts R kb nb ad ro E pc L st σ as g := by
  intro p e s m args below meth c D cI cL A Q C hE H locs ls hP hD hS hl hG
  exact h p e s m args below meth c D cI cL A Q C hE H locs ls (lw2_subP hC hP) (lw2_subD hC hn hD) hS hl hG
theorem LR.fin (h : E pc st σ as g) : LR l cc nL ret Ts R kb nb ad ro E pc L st σ as g := by
  intro p e s m args below meth c D cI cL A Q C hE H locs ls hP hD hS hl hG
  exact hE pc ls st σ as g H locs h hP hD hS hG
theorem LR.iaload {j b n : Nat} {f : Nat → Int32} {i : Int32} (hd : decode cc pc = .ok (.iaload, 1)) (hb : as[j]? = some (b, n, f)) (hi : ¬ (i < 0 ∨ n ≤ i.toNatClampNeg)) (h : LR l cc nL ret Ts R kb nb ad ro E (pc + 1) L (.int (f i.toNatClampNeg) :: st) σ as g) : LR l cc nL ret Ts R kb nb ad ro E pc L (.int i :: .ref b :: st) σ as g := by
  intro p e s m args below meth c D cI cL A Q C hE H locs ls hP hD hS hl hG
  exact va_iald C.1 C.2.1 C.2.2.2.2.2.2.2.2.2.1 hP (47 + j) 0 (lw2_at hb) rfl hi hd (h p e s m args below meth c D cI cL A Q C hE H locs ls hP hD hS hl hG)
theorem waX {D : va_G} {cI cL : ClassId} {s U : State} {H : Heap} {x : Nat × Nat × (Nat → Int32)} (hK : va_K D vwCl [(cI, .int), (cL, .long)] s) (h : va_at D vwCl (waE cI x) H) : va_X x.1 x.2.1 x.2.2 s H :=
  ⟨_, h, (hK.2 0 (cI, .int) rfl).1 x.2.1 (fun j => .int (x.2.2 j)), (fun q => by cases q), arrV_size _ _ _, fun j hj => arrV_read _ _ hj⟩
theorem LR.ialoadR {j b n : Nat} {f : Nat → Int32} {i : Int32} (hd : decode cc pc = .ok (.iaload, 1)) (hb : ro[j]? = some (b, n, f)) (hi : ¬ (i < 0 ∨ n ≤ i.toNatClampNeg)) (h : LR l cc nL ret Ts R kb nb ad ro E (pc + 1) L (.int (f i.toNatClampNeg) :: st) σ as g) : LR l cc nL ret Ts R kb nb ad ro E pc L (.int i :: .ref b :: st) σ as g := by
  intro p e s m args below meth c D cI cL A Q C hE H locs ls hP hD hS hl hG
  have hx := C.2.2.2.2.2.2.2.2.2.2.1 _ (List.mem_of_getElem? hb)
  exact va_sld C.1 C.2.1 hx.1 hx.2 (C.2.2.2.2.2.2.2.2.2.2.2.1 _ (List.mem_of_getElem? hb)) hS hi hd (h p e s m args below meth c D cI cL A Q C hE H locs ls hP hD hS hl hG)
theorem LR.alenR {j b n : Nat} {f : Nat → Int32} (hd : decode cc pc = .ok (.arraylength, 1)) (hb : ro[j]? = some (b, n, f)) (h : LR l cc nL ret Ts R kb nb ad ro E (pc + 1) L (.int (nI n) :: st) σ as g) : LR l cc nL ret Ts R kb nb ad ro E pc L (.ref b :: st) σ as g := by
  intro p e s m args below meth c D cI cL A Q C hE H locs ls hP hD hS hl hG
  have hx := C.2.2.2.2.2.2.2.2.2.2.1 _ (List.mem_of_getElem? hb)
  exact va_slen C.1 C.2.1 hx.1 hx.2 (C.2.2.2.2.2.2.2.2.2.2.2.1 _ (List.mem_of_getElem? hb)) hS hd (h p e s m args below meth c D cI cL A Q C hE H locs ls hP hD hS hl hG)
theorem LR.iastore {j b n : Nat} {f : Nat → Int32} {i x : Int32} {as2 : LA} (hd : decode cc pc = .ok (.iastore, 1)) (hb : as[j]? = some (b, n, f)) (hi : ¬ (i < 0 ∨ n ≤ i.toNatClampNeg)) (h2 : as.set j (b, n, upd f i.toNatClampNeg x) = as2) (h : LR l cc nL ret Ts R kb nb ad ro E (pc + 1) L st σ as2 g) : LR l cc nL ret Ts R kb nb ad ro E pc L (.int x :: .int i :: .ref b :: st) σ as g := by
  intro p e s m args below meth c D cI cL A Q C hE H locs ls hP hD hS hl hG
  refine va_iast C.1 C.2.1 C.2.2.2.2.2.2.2.2.2.1 hP (lw2_D hD) hS (47 + j) 0 (lw2_at hb) rfl hi hd (fun H1 locs1 hP1 hD1 hS1 => ?_)
  rw [lw2_set, h2] at hP1 hD1
  exact h p e s m args below meth c D cI cL A Q C hE H1 locs1 ls hP1 (lw2_D hD1) hS1 hl hG
theorem LR.newa {n : Int32} {N : Nat} (hd : decode cc pc = .ok (.newarray .int, 2)) (hn : ¬ n < 0) (hN : n.toNatClampNeg = N) (hs : N ≤ 80) (hg : kb + (g + 1) ≤ R.cells ∧ nb + 80 * (g + 1) ≤ R.slots) (h : ∀ q : Nat, LR l cc nL ret Ts R kb nb ad ro E (pc + 2) L (.ref q :: st) σ (as ++ [(q, N, fun _ => 0)]) (g + 1)) : LR l cc nL ret Ts R kb nb ad ro E pc L (.int n :: st) σ as g := by
  intro p e s m args below meth c D cI cL A Q C hE H locs ls hP hD hS hl hG
  refine nwI C.1 C.2.1 (C.2.2.2.2.2.2.1 _ (C.2.2.2.2.2.2.2.1 _ arc_int)) C.2.2.2.2.2.2.2.2.2.1 hP (lw2_D hD) hS C.2.2.2.2.2.2.2.2.2.2.2.2 hn hN (Nat.le_trans (Nat.mul_le_mul_right _ hs) (Nat.le_of_ble_eq_true rfl)) (by omega) (by omega) hd (fun q H1 hP1 hD1 hS1 => ?_)
  refine W.widen (k := kb + (g + 1)) (n := nb + 80 * (g + 1)) (by omega) (by omega) ?_
  rw [show (wd SC cI cL ad σ ++ wa cI as) ++ [(q, .inl (cI, N, .inl (fun _ => 0)))] = lw2 cI cL ad σ (as ++ [(q, N, fun _ => 0)]) by unfold lw2; rw [wa_app, List.append_assoc]; rfl] at hP1 hD1
  exact h q p e s m args below meth c D cI cL A Q C hE H1 locs ls hP1 (lw2_D hD1) hS1 hl hg
end LRrules
