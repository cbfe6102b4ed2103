/-! THE WORLD OF NUMBERED CELLS. HS: all ints and longs of a world's cells (cell, place); Shp: what each cell is: (kind, length, fields): kind 0 a row of ints, 1 a row of longs, ci + 2 an object of class ci, whose fields are 0 an int, 1 a long, r + 2 the cell r. A value .ref k of AR stands for the cell numbered k; ad tells its address. -/
abbrev HS : Type := (Nat → Nat → Int32) × (Nat → Nat → Int64)
abbrev Shp : Type := List (Nat × Nat × List Nat)
def mV (ad : Nat → Nat) : Value → Value
  | .ref k => .ref (ad k)
  | v => v
theorem mV_cat (ad : Nat → Nat) (v : Value) : (mV ad v).category = v.category := by cases v <;> rfl
def fV (σ : HS) (k j d : Nat) : Value := match d with
  | 0 => .int (σ.1 k j)
  | 1 => .long (σ.2 k j)
  | r + 2 => .ref r
def fLg (ad : Nat → Nat) (σ : HS) (k : Nat) : Nat → List Nat → List Value
  | _, [] => []
  | j, d :: ds => mV ad (fV σ k j d) :: fLg ad σ k (j + 1) ds
def fL (ad : Nat → Nat) (σ : HS) (k : Nat) (ds : List Nat) : List Value := fLg ad σ k 0 ds
theorem fLg_get (ad : Nat → Nat) (σ : HS) (k : Nat) : ∀ (ds : List Nat) (j i : Nat), (fLg ad σ k j ds)[i]? = (ds[i]?).map (fun d => mV ad (fV σ k (j + i) d)) := by
  intro ds
  induction ds with
  | nil => intro j i; simp [fLg]
  | cons d ds ih =>
    intro j i
    cases i with
    | zero => simp [fLg]
    | succ i =>
      show (fLg ad σ k (j + 1) ds)[i]? = _
      rw [ih, show j + 1 + i = j + (i + 1) by omega]
      simp
theorem fL_get0 (ad : Nat → Nat) (σ : HS) (k : Nat) (ds : List Nat) (i : Nat) : (fL ad σ k ds)[i]? = (ds[i]?).map (fun d => mV ad (fV σ k i d)) := by
  unfold fL; rw [fLg_get]; simp
theorem fLg_len (ad : Nat → Nat) (σ : HS) (k : Nat) : ∀ (ds : List Nat) (j : Nat), (fLg ad σ k j ds).length = ds.length := by
  intro ds
  induction ds with
  | nil => intro j; rfl
  | cons d ds ih => intro j; simp [fLg, ih]
def eE (cI cL : ClassId) (ad : Nat → Nat) (σ : HS) (k : Nat) (d : Nat × Nat × List Nat) : va_E := match d.1 with
  | 0 => .inl (cI, d.2.1, .inl (σ.1 k))
  | 1 => .inl (cL, d.2.1, .inr (.inl (σ.2 k)))
  | ci + 2 => .inr (ci, fL ad σ k d.2.2)
def wdg (cI cL : ClassId) (ad : Nat → Nat) (σ : HS) : Nat → Shp → va_W
  | _, [] => []
  | k, d :: S => (ad k, eE cI cL ad σ k d) :: wdg cI cL ad σ (k + 1) S
def wd (S : Shp) (cI cL : ClassId) (ad : Nat → Nat) (σ : HS) : va_W := wdg cI cL ad σ 0 S
theorem wdg_get (cI cL : ClassId) (ad : Nat → Nat) (σ : HS) : ∀ (S : Shp) (k i : Nat), (wdg cI cL ad σ k S)[i]? = (S[i]?).map (fun d => (ad (k + i), eE cI cL ad σ (k + i) d)) := by
  intro S
  induction S with
  | nil => intro k i; simp [wdg]
  | cons d S ih =>
    intro k i
    cases i with
    | zero => simp [wdg]
    | succ i =>
      show (wdg cI cL ad σ (k + 1) S)[i]? = _
      rw [ih, show k + 1 + i = k + (i + 1) by omega]
      simp
theorem wd_get (S : Shp) (cI cL : ClassId) (ad : Nat → Nat) (σ : HS) (k : Nat) : (wd S cI cL ad σ)[k]? = (S[k]?).map (fun d => (ad k, eE cI cL ad σ k d)) := by
  unfold wd; rw [wdg_get]; simp
theorem wd_at {S : Shp} {cI cL : ClassId} {ad : Nat → Nat} {σ : HS} {k : Nat} {d : Nat × Nat × List Nat} (h : S[k]? = some d) : (wd S cI cL ad σ)[k]? = some (ad k, eE cI cL ad σ k d) := by
  rw [wd_get, h]; rfl
def uI (σ : HS) (k j : Nat) (x : Int32) : HS := (fun a => if a = k then upd (σ.1 a) j x else σ.1 a, σ.2)
def uL (σ : HS) (k j : Nat) (x : Int64) : HS := (σ.1, fun a => if a = k then vp_updL (σ.2 a) j x else σ.2 a)
theorem uI_same (σ : HS) (k j : Nat) (x : Int32) : (uI σ k j x).1 k = upd (σ.1 k) j x := if_pos rfl
theorem uI_other {σ : HS} {k a : Nat} (h : a ≠ k) (j : Nat) (x : Int32) : (uI σ k j x).1 a = σ.1 a := if_neg h
theorem uI_2 (σ : HS) (k j : Nat) (x : Int32) : (uI σ k j x).2 = σ.2 := rfl
theorem uL_same (σ : HS) (k j : Nat) (x : Int64) : (uL σ k j x).2 k = vp_updL (σ.2 k) j x := if_pos rfl
theorem uL_other {σ : HS} {k a : Nat} (h : a ≠ k) (j : Nat) (x : Int64) : (uL σ k j x).2 a = σ.2 a := if_neg h
theorem uL_1 (σ : HS) (k j : Nat) (x : Int64) : (uL σ k j x).1 = σ.1 := rfl
theorem eE_I (cI cL : ClassId) (ad : Nat → Nat) (σ : HS) {k q : Nat} (h : q ≠ k) (j : Nat) (x : Int32) (d : Nat × Nat × List Nat) : eE cI cL ad (uI σ k j x) q d = eE cI cL ad σ q d := by
  obtain ⟨d1, d2, d3⟩ := d
  have hf : ∀ j2 d0, fV (uI σ k j x) q j2 d0 = fV σ q j2 d0 := by
    intro j2 d0
    match d0 with
    | 0 => show Value.int _ = Value.int _; rw [uI_other h]
    | 1 => rfl
    | r + 2 => rfl
  match d1 with
  | 0 => show Sum.inl (_, _, Sum.inl _) = Sum.inl (_, _, Sum.inl _); rw [uI_other h]
  | 1 => rfl
  | c + 2 => show Sum.inr (_, fL _ _ _ _) = Sum.inr (_, fL _ _ _ _); congr 2; apply List.ext_getElem?; intro i; rw [fL_get0, fL_get0]; simp only [hf]
theorem eE_L (cI cL : ClassId) (ad : Nat → Nat) (σ : HS) {k q : Nat} (h : q ≠ k) (j : Nat) (x : Int64) (d : Nat × Nat × List Nat) : eE cI cL ad (uL σ k j x) q d = eE cI cL ad σ q d := by
  obtain ⟨d1, d2, d3⟩ := d
  have hf : ∀ j2 d0, fV (uL σ k j x) q j2 d0 = fV σ q j2 d0 := by
    intro j2 d0
    match d0 with
    | 0 => rfl
    | 1 => show Value.long _ = Value.long _; rw [uL_other h]
    | r + 2 => rfl
  match d1 with
  | 0 => rfl
  | 1 => show Sum.inl (_, _, Sum.inr (Sum.inl _)) = Sum.inl (_, _, Sum.inr (Sum.inl _)); rw [uL_other h]
  | c + 2 => show Sum.inr (_, fL _ _ _ _) = Sum.inr (_, fL _ _ _ _); congr 2; apply List.ext_getElem?; intro i; rw [fL_get0, fL_get0]; simp only [hf]
theorem wd_set {S : Shp} {cI cL : ClassId} {ad : Nat → Nat} {σ σ' : HS} {k : Nat} {d : Nat × Nat × List Nat} {e : va_E} (hd : S[k]? = some d) (h1 : ∀ q d', q ≠ k → eE cI cL ad σ' q d' = eE cI cL ad σ q d') (h2 : eE cI cL ad σ' k d = e) : (wd S cI cL ad σ).set k (ad k, e) = wd S cI cL ad σ' := by
  have hl : k < (wd S cI cL ad σ).length := (List.getElem?_eq_some_iff.mp (wd_at (cI := cI) (cL := cL) (ad := ad) (σ := σ) hd)).1
  apply List.ext_getElem?
  intro q
  by_cases hq : q = k
  · subst hq
    rw [List.getElem?_set_self hl, wd_at hd, h2]
  · rw [List.getElem?_set_ne (Ne.symm hq), wd_get, wd_get]
    cases S[q]? with
    | none => rfl
    | some d' => show some (ad q, _) = some (ad q, _); rw [h1 q d' hq]
theorem fL_len (ad : Nat → Nat) (σ : HS) (k : Nat) (ds : List Nat) : (fL ad σ k ds).length = ds.length := fLg_len ad σ k ds 0
theorem fL_get {ad : Nat → Nat} {σ : HS} {k j d : Nat} {ds : List Nat} (h : ds[j]? = some d) : (fL ad σ k ds)[j]? = some (mV ad (fV σ k j d)) := by
  rw [fL_get0, h]; rfl
theorem fL_setI {ad : Nat → Nat} {σ : HS} {k j : Nat} {ds : List Nat} (h : ds[j]? = some 0) (x : Int32) : (fL ad σ k ds).set j (.int x) = fL ad (uI σ k j x) k ds := by
  have hl : j < (fL ad σ k ds).length := by rw [fL_len]; exact (List.getElem?_eq_some_iff.mp h).1
  apply List.ext_getElem?
  intro q
  by_cases hq : q = j
  · subst hq
    rw [List.getElem?_set_self hl, fL_get h]
    show some (Value.int x) = some (Value.int _)
    rw [uI_same]; simp [upd]
  · rw [List.getElem?_set_ne (Ne.symm hq)]
    cases hd : ds[q]? with
    | none => rw [fL_get0, fL_get0, hd]; rfl
    | some d =>
      rw [fL_get hd, fL_get hd]
      match d with
      | 0 => show some (Value.int _) = some (Value.int _); rw [uI_same]; simp [upd, hq]
      | 1 => rfl
      | r + 2 => rfl
theorem fL_setL {ad : Nat → Nat} {σ : HS} {k j : Nat} {ds : List Nat} (h : ds[j]? = some 1) (x : Int64) : (fL ad σ k ds).set j (.long x) = fL ad (uL σ k j x) k ds := by
  have hl : j < (fL ad σ k ds).length := by rw [fL_len]; exact (List.getElem?_eq_some_iff.mp h).1
  apply List.ext_getElem?
  intro q
  by_cases hq : q = j
  · subst hq
    rw [List.getElem?_set_self hl, fL_get h]
    show some (Value.long x) = some (Value.long _)
    rw [uL_same]; simp [vp_updL]
  · rw [List.getElem?_set_ne (Ne.symm hq)]
    cases hd : ds[q]? with
    | none => rw [fL_get0, fL_get0, hd]; rfl
    | some d =>
      rw [fL_get hd, fL_get hd]
      match d with
      | 0 => rfl
      | 1 => show some (Value.long _) = some (Value.long _); rw [uL_same]; simp [vp_updL, hq]
      | r + 2 => rfl
/-- the words of nest mates -/
def isNest : Cond → Bool
  | .fieldLinkNest _ _ _ _ _ _ => true
  | .methodLinkNest _ _ _ _ => true
  | _ => false
def NW (U : State) : Prop := ∀ w ∈ tables_1, isNest w = true → va_Nw w U
theorem NW.warm {s U : State} (hW : s.WarmedH U.vm) (h : NW s) : NW U := by
  intro w hw hn
  cases w <;> first | exact va_Nw.warmF hW (h _ hw hn) | exact va_Nw.warmM hW (h _ hw hn) | (exact absurd hn (by simp [isNest]))
theorem NW.same {u U : State} (hv : u.vm = U.vm) (h : NW u) : NW U := by
  intro w hw hn
  cases w <;> first | exact va_Nw.same rfl hv (h _ hw hn) | exact absurd hn (by simp [isNest])
/-- locals as AR has them -/
def mL (ad : Nat → Nat) (L : List (Nat × Value)) : List (Nat × Value) := L.map (fun q => (q.1, mV ad q.2))
def sto1 (i : Nat) (v : Value) (L : List (Nat × Value)) : List (Nat × Value) := (i, v) :: L.filter (fun q => !(q.1 == i) && !(q.1 + 1 == i && q.2.category == 2))
def sto2 (i : Nat) (v : Value) (L : List (Nat × Value)) : List (Nat × Value) := (i, v) :: L.filter (fun q => !(q.1 == i) && (!(q.1 == i + 1) && !(q.1 + 1 == i && q.2.category == 2)))
theorem mL_sto1 (ad : Nat → Nat) (i : Nat) (v : Value) (L : List (Nat × Value)) : (i, mV ad v) :: (mL ad L).filter (fun q => !(q.1 == i) && !(q.1 + 1 == i && q.2.category == 2)) = mL ad (sto1 i v L) := by
  unfold mL sto1
  rw [List.map_cons, List.filter_map]
  congr 2
  congr 1
  funext q
  simp [Function.comp, mV_cat]
theorem mL_sto2 (ad : Nat → Nat) (i : Nat) (v : Value) (L : List (Nat × Value)) : (i, mV ad v) :: (mL ad L).filter (fun q => !(q.1 == i) && (!(q.1 == i + 1) && !(q.1 + 1 == i && q.2.category == 2))) = mL ad (sto2 i v L) := by
  unfold mL sto2
  rw [List.map_cons, List.filter_map]
  congr 2
  congr 1
  funext q
  simp [Function.comp, mV_cat]
theorem mL_get {ad : Nat → Nat} {L : List (Nat × Value)} {j i : Nat} {v : Value} (h : L[j]? = some (i, v)) : (mL ad L)[j]? = some (i, mV ad v) := by
  simp [mL, h]
theorem mL_pick (ad : Nat → Nat) (L : List (Nat × Value)) (ks : List Nat) : lv_pick (mL ad L) ks = mL ad (lv_pick L ks) := by
  unfold lv_pick mL
  rw [List.map_filterMap]
  congr 1
  funext k
  simp
/-- every method's words -/
def wsU (y : MethodName) (b : ByteArray) (n : Nat) (r : Option FieldType) : List Cond := .code y b n r :: wsG
theorem wsL_ok {w : Cond} (h : w ∈ wsG) : (w.onTables && w.keeps) = true ∨ ∃ ty, w = .arrayClass ty := good_of_word (List.mem_filter.mp h).2
theorem wsU_in {y : MethodName} {b : ByteArray} {n : Nat} {r : Option FieldType} {w : Cond} (h : w ∈ wsG) : w ∈ wsU y b n r := List.mem_cons_of_mem _ h
theorem wsU_good {y y2 : MethodName} {b b2 : ByteArray} {n n2 : Nat} {r r2 : Option FieldType} (hc : Cond.code y2 b2 n2 r2 ∈ wsG) : GoodIn (wsU y b n r) (wsU y2 b2 n2 r2) := by
  intro w hw
  rcases List.mem_cons.mp hw with rfl | h
  · exact ⟨wsU_in hc, wsL_ok hc⟩
  · exact ⟨wsU_in h, wsL_ok h⟩
def zHS : HS := (fun _ _ => 0, fun _ _ => 0)
theorem wd_map (S : Shp) (cI cL : ClassId) (ad : Nat → Nat) (σ : HS) (k : Nat) : ((wd S cI cL ad σ)[k]?).map (·.1) = (S[k]?).map (fun _ => ad k) := by
  rw [wd_get]; cases S[k]? <;> rfl
theorem wd_D {A : Nat → Prop} {S : Shp} {cI cL : ClassId} {ad : Nat → Nat} {σ σ' : HS} (h : va_D A (wd S cI cL ad σ)) : va_D A (wd S cI cL ad σ') := by
  have key : ∀ (k : Nat) (q : Nat × va_E), (wd S cI cL ad σ')[k]? = some q → ∃ q0, (wd S cI cL ad σ)[k]? = some q0 ∧ q0.1 = q.1 := by
    intro k q hk
    rw [wd_get] at hk ⊢
    cases hS : S[k]? with
    | none => rw [hS] at hk; cases hk
    | some d => rw [hS] at hk; cases hk; exact ⟨_, rfl, rfl⟩
  refine ⟨fun i j x y hi hj hxy => ?_, fun k q hk => ?_⟩
  · obtain ⟨x0, a1, a2⟩ := key i x hi
    obtain ⟨y0, b1, b2⟩ := key j y hj
    exact h.1 i j x0 y0 a1 b1 (by rw [a2, b2, hxy])
  · obtain ⟨q0, a1, a2⟩ := key k q hk
    rw [← a2]; exact h.2 k q0 a1
theorem wd_A {S : Shp} {cI cL : ClassId} {ad : Nat → Nat} {σ σ' : HS} {sz q : Nat} (h : va_A (wd S cI cL ad σ) sz q) : va_A (wd S cI cL ad σ') sz q := by
  rcases h with ⟨k, e, hk⟩ | h
  · rw [wd_get] at hk
    cases hS : S[k]? with
    | none => rw [hS] at hk; cases hk
    | some d =>
      rw [hS] at hk
      have : ad k = q := congrArg Prod.fst (Option.some.inj hk)
      exact Or.inl ⟨k, _, by rw [wd_get, hS, ← this]; rfl⟩
  · exact Or.inr h
/-- what stays through a method's body -/
def ACtx (own : String) (cc : ByteArray) (nL : Nat) (ret : Option FieldType) (Ts : List Cond) (S : Shp) (p : Program) (s : State) (m : MethodId) (args : Array Value) (meth : Method) (c : Code) (D : va_G) (cI cL : ClassId) (ad : Nat → Nat) (A : Nat → Prop) : Prop :=
  p.tables.exec = Jvm.exec ∧ c.code = cc ∧ c.maxLocals = nL ∧ meth.sig.returnType = ret ∧ s.vm.findClass own = some m.cls ∧ meth.locks = false ∧ (∀ w ∈ Ts, w.before args s = true) ∧ NW s ∧ va_K D vwCl [(cI, .int), (cL, .long)] s ∧ va_D A (wd S cI cL ad zHS) ∧ (∀ q : Nat, s.heap.size ≤ q → A q)
def AR (l : Launch) (own : String) (cc : ByteArray) (nL : Nat) (ret : Option FieldType) (Ts : List Cond) (R : Room) (S : Shp) (pc : Nat) (L : List (Nat × Value)) (st : List Value) (σ : HS) (X : Option Value × HS) : Prop :=
  ∀ (p : Program) (e : Env) (s : State) (m : MethodId) (args : Array Value) (below : List Frame) (meth : Method) (c : Code) (D : va_G) (cI cL : ClassId) (ad : Nat → Nat) (A : Nat → Prop), ACtx own cc nL ret Ts S p s m args meth c D cI cL ad A →
  ∀ (H : Heap) (locs : List Loc) (ls : Array Slot) (Qc : Array Value → State → Outcome → State → Prop), va_P D vwCl (wd S cI cL ad σ) H → va_S A s.heap H locs → lv_has ls nL (mL ad L) →
  (∀ (t : State) (H1 : Heap) (locs1 : List Loc), t.heap = H1 → s.WarmedH t.vm → va_P D vwCl (wd S cI cL ad X.2) H1 → va_S A s.heap H1 locs1 → Qc args s (.returned (X.1.map (mV ad))) t) →
  W p l e R s m args below meth c H locs 0 0 (MQ below Qc args s 0 0 A) (F0 m pc ls (st.map (mV ad)))
section ARrules
variable {l : Launch} {own : String} {cc : ByteArray} {nL : Nat} {ret : Option FieldType} {Ts : List Cond} {R : Room} {S : Shp} {pc : Nat} {L : List (Nat × Value)} {st : List Value} {σ : HS} {X : Option Value × HS}

theorem AR.iconst {n : Int} {v : Int32} (hd : decode cc pc = .ok (.iconst n, 1)) (hv : Int32.ofInt n = v) (h : AR l own cc nL ret Ts R S (pc + 1) L (.int v :: st) σ X) : AR l own cc nL ret Ts R S pc L st σ X := by
  intro p e s m args below meth c D cI cL ad A C H locs ls Qc hP hS hl hq
  exact lv_iconst C.1 C.2.1 hd hv (h p e s m args below meth c D cI cL ad A C H locs ls Qc hP hS hl hq)
theorem AR.bipush {n : Int} {v : Int32} (hd : decode cc pc = .ok (.bipush n, 2)) (hv : (Int8.ofInt n).toInt32 = v) (h : AR l own cc nL ret Ts R S (pc + 2) L (.int v :: st) σ X) : AR l own cc nL ret Ts R S pc L st σ X := by
  intro p e s m args below meth c D cI cL ad A C H locs ls Qc hP hS hl hq
  exact lv_bipush C.1 C.2.1 hd hv (h p e s m args below meth c D cI cL ad A C H locs ls Qc hP hS hl hq)
theorem AR.sipush {n : Int} {v : Int32} (hd : decode cc pc = .ok (.sipush n, 3)) (hv : (Int16.ofInt n).toInt32 = v) (h : AR l own cc nL ret Ts R S (pc + 3) L (.int v :: st) σ X) : AR l own cc nL ret Ts R S pc L st σ X := by
  intro p e s m args below meth c D cI cL ad A C H locs ls Qc hP hS hl hq
  exact lv_sipush C.1 C.2.1 hd hv (h p e s m args below meth c D cI cL ad A C H locs ls Qc hP hS hl hq)
theorem AR.lconst {n : Fin 2} {v : Int64} (hd : decode cc pc = .ok (.lconst n, 1)) (hv : Int64.ofNat (n : Nat) = v) (h : AR l own cc nL ret Ts R S (pc + 1) L (.long v :: st) σ X) : AR l own cc nL ret Ts R S pc L st σ X := by
  intro p e s m args below meth c D cI cL ad A C H locs ls Qc hP hS hl hq
  exact lv_lconst C.1 C.2.1 hd hv (h p e s m args below meth c D cI cL ad A C H locs ls Qc hP hS hl hq)
theorem AR.ldc2 {idx : Nat} {v : Int64} (hd : decode cc pc = .ok (.ldc2_w idx, 3)) (hw : Cond.constantLong own idx v ∈ Ts) (h : AR l own cc nL ret Ts R S (pc + 3) L (.long v :: st) σ X) : AR l own cc nL ret Ts R S pc L st σ X := by
  intro p e s m args below meth c D cI cL ad A C H locs ls Qc hP hS hl hq
  exact lv_ldc2 C.1 C.2.1 C.2.2.2.2.1 (C.2.2.2.2.2.2.1 _ hw) hd (h p e s m args below meth c D cI cL ad A C H locs ls Qc hP hS hl hq)
theorem AR.iload_n {k : Fin 4} {i j : Nat} {x : Int32} (hd : decode cc pc = .ok (.iload_n k, 1)) (hi : (k : Nat) = i) (hL : L[j]? = some (i, .int x)) (h : AR l own cc nL ret Ts R S (pc + 1) L (.int x :: st) σ X) : AR l own cc nL ret Ts R S pc L st σ X := by
  intro p e s m args below meth c D cI cL ad A C H locs ls Qc hP hS hl hq
  exact lv_iload_n C.1 C.2.1 hd hi (lv_at hl j (mL_get hL)) (h p e s m args below meth c D cI cL ad A C H locs ls Qc hP hS hl hq)
theorem AR.iload {i j : Nat} {x : Int32} (hd : decode cc pc = .ok (.iload i, 2)) (hL : L[j]? = some (i, .int x)) (h : AR l own cc nL ret Ts R S (pc + 2) L (.int x :: st) σ X) : AR l own cc nL ret Ts R S pc L st σ X := by
  intro p e s m args below meth c D cI cL ad A C H locs ls Qc hP hS hl hq
  exact lv_iload C.1 C.2.1 hd (lv_at hl j (mL_get hL)) (h p e s m args below meth c D cI cL ad A C H locs ls Qc hP hS hl hq)
theorem AR.lload_n {k : Fin 4} {i j : Nat} {x : Int64} (hd : decode cc pc = .ok (.lload_n k, 1)) (hi : (k : Nat) = i) (hL : L[j]? = some (i, .long x)) (h : AR l own cc nL ret Ts R S (pc + 1) L (.long x :: st) σ X) : AR l own cc nL ret Ts R S pc L st σ X := by
  intro p e s m args below meth c D cI cL ad A C H locs ls Qc hP hS hl hq
  exact lv_lload_n C.1 C.2.1 hd hi (lv_at hl j (mL_get hL)) (h p e s m args below meth c D cI cL ad A C H locs ls Qc hP hS hl hq)
theorem AR.lload {i j : Nat} {x : Int64} (hd : decode cc pc = .ok (.lload i, 2)) (hL : L[j]? = some (i, .long x)) (h : AR l own cc nL ret Ts R S (pc + 2) L (.long x :: st) σ X) : AR l own cc nL ret Ts R S pc L st σ X := by
  intro p e s m args below meth c D cI cL ad A C H locs ls Qc hP hS hl hq
  exact lv_lload C.1 C.2.1 hd (lv_at hl j (mL_get hL)) (h p e s m args below meth c D cI cL ad A C H locs ls Qc hP hS hl hq)
theorem AR.aload_n {k : Fin 4} {i j : Nat} {x : Nat} (hd : decode cc pc = .ok (.aload_n k, 1)) (hi : (k : Nat) = i) (hL : L[j]? = some (i, .ref x)) (h : AR l own cc nL ret Ts R S (pc + 1) L (.ref x :: st) σ X) : AR l own cc nL ret Ts R S pc L st σ X := by
  intro p e s m args below meth c D cI cL ad A C H locs ls Qc hP hS hl hq
  exact lv_aload_n C.1 C.2.1 hd hi (lv_at hl j (mL_get hL)) (h p e s m args below meth c D cI cL ad A C H locs ls Qc hP hS hl hq)
theorem AR.aload {i j : Nat} {x : Nat} (hd : decode cc pc = .ok (.aload i, 2)) (hL : L[j]? = some (i, .ref x)) (h : AR l own cc nL ret Ts R S (pc + 2) L (.ref x :: st) σ X) : AR l own cc nL ret Ts R S pc L st σ X := by
  intro p e s m args below meth c D cI cL ad A C H locs ls Qc hP hS hl hq
  exact lv_aload C.1 C.2.1 hd (lv_at hl j (mL_get hL)) (h p e s m args below meth c D cI cL ad A C H locs ls Qc hP hS hl hq)
theorem AR.istore_n {k : Fin 4} {i : Nat} {x : Int32} {L2 : List (Nat × Value)} (hd : decode cc pc = .ok (.istore_n k, 1)) (hi : (k : Nat) = i) (hn : i < nL) (hL : sto1 i (.int x) L = L2) (h : AR l own cc nL ret Ts R S (pc + 1) L2 st σ X) : AR l own cc nL ret Ts R S pc L (.int x :: st) σ X := by
  intro p e s m args below meth c D cI cL ad A C H locs ls Qc hP hS hl hq
  exact lv_istore_n C.1 C.2.1 hd hi hl hn (mL_sto1 ad i (.int x) L) (fun ls2 hl2 => h p e s m args below meth c D cI cL ad A C H locs ls2 Qc hP hS (hL ▸ hl2) hq)
theorem AR.istore {i : Nat} {x : Int32} {L2 : List (Nat × Value)} (hd : decode cc pc = .ok (.istore i, 2)) (hn : i < nL) (hL : sto1 i (.int x) L = L2) (h : AR l own cc nL ret Ts R S (pc + 2) L2 st σ X) : AR l own cc nL ret Ts R S pc L (.int x :: st) σ X := by
  intro p e s m args below meth c D cI cL ad A C H locs ls Qc hP hS hl hq
  exact lv_istore C.1 C.2.1 hd hl hn (mL_sto1 ad i (.int x) L) (fun ls2 hl2 => h p e s m args below meth c D cI cL ad A C H locs ls2 Qc hP hS (hL ▸ hl2) hq)
theorem AR.lstore_n {k : Fin 4} {i : Nat} {x : Int64} {L2 : List (Nat × Value)} (hd : decode cc pc = .ok (.lstore_n k, 1)) (hi : (k : Nat) = i) (hn : i + 1 < nL) (hL : sto2 i (.long x) L = L2) (h : AR l own cc nL ret Ts R S (pc + 1) L2 st σ X) : AR l own cc nL ret Ts R S pc L (.long x :: st) σ X := by
  intro p e s m args below meth c D cI cL ad A C H locs ls Qc hP hS hl hq
  exact lv_lstore_n C.1 C.2.1 hd hi hl hn (mL_sto2 ad i (.long x) L) (fun ls2 hl2 => h p e s m args below meth c D cI cL ad A C H locs ls2 Qc hP hS (hL ▸ hl2) hq)
theorem AR.lstore {i : Nat} {x : Int64} {L2 : List (Nat × Value)} (hd : decode cc pc = .ok (.lstore i, 2)) (hn : i + 1 < nL) (hL : sto2 i (.long x) L = L2) (h : AR l own cc nL ret Ts R S (pc + 2) L2 st σ X) : AR l own cc nL ret Ts R S pc L (.long x :: st) σ X := by
  intro p e s m args below meth c D cI cL ad A C H locs ls Qc hP hS hl hq
  exact lv_lstore C.1 C.2.1 hd hl hn (mL_sto2 ad i (.long x) L) (fun ls2 hl2 => h p e s m args below meth c D cI cL ad A C H locs ls2 Qc hP hS (hL ▸ hl2) hq)
theorem AR.iinc {i j : Nat} {n : Int} {x v : Int32} {L2 : List (Nat × Value)} (hd : decode cc pc = .ok (.iinc i n, 3)) (hL : L[j]? = some (i, .int x)) (hv : x + Int32.ofInt n = v) (hn : i < nL) (hL2 : sto1 i (.int v) L = L2) (h : AR l own cc nL ret Ts R S (pc + 3) L2 st σ X) : AR l own cc nL ret Ts R S pc L st σ X := by
  intro p e s m args below meth c D cI cL ad A C H locs ls Qc hP hS hl hq
  exact lv_iinc C.1 C.2.1 hd hl (mL_get hL) hv hn (mL_sto1 ad i (.int v) L) (fun ls2 hl2 => h p e s m args below meth c D cI cL ad A C H locs ls2 Qc hP hS (hL2 ▸ hl2) hq)
theorem AR.iadd {x y : Int32} (hd : decode cc pc = .ok (.iadd, 1)) (h : AR l own cc nL ret Ts R S (pc + 1) L (.int (x + y) :: st) σ X) : AR l own cc nL ret Ts R S pc L (.int y :: .int x :: st) σ X := by
  intro p e s m args below meth c D cI cL ad A C H locs ls Qc hP hS hl hq
  exact lv_iadd C.1 C.2.1 hd (h p e s m args below meth c D cI cL ad A C H locs ls Qc hP hS hl hq)
theorem AR.isub {x y : Int32} (hd : decode cc pc = .ok (.isub, 1)) (h : AR l own cc nL ret Ts R S (pc + 1) L (.int (x - y) :: st) σ X) : AR l own cc nL ret Ts R S pc L (.int y :: .int x :: st) σ X := by
  intro p e s m args below meth c D cI cL ad A C H locs ls Qc hP hS hl hq
  exact lv_isub C.1 C.2.1 hd (h p e s m args below meth c D cI cL ad A C H locs ls Qc hP hS hl hq)
theorem AR.imul {x y : Int32} (hd : decode cc pc = .ok (.imul, 1)) (h : AR l own cc nL ret Ts R S (pc + 1) L (.int (x * y) :: st) σ X) : AR l own cc nL ret Ts R S pc L (.int y :: .int x :: st) σ X := by
  intro p e s m args below meth c D cI cL ad A C H locs ls Qc hP hS hl hq
  exact lv_imul C.1 C.2.1 hd (h p e s m args below meth c D cI cL ad A C H locs ls Qc hP hS hl hq)
theorem AR.iand {x y : Int32} (hd : decode cc pc = .ok (.iand, 1)) (h : AR l own cc nL ret Ts R S (pc + 1) L (.int (x &&& y) :: st) σ X) : AR l own cc nL ret Ts R S pc L (.int y :: .int x :: st) σ X := by
  intro p e s m args below meth c D cI cL ad A C H locs ls Qc hP hS hl hq
  exact lv_iand C.1 C.2.1 hd (h p e s m args below meth c D cI cL ad A C H locs ls Qc hP hS hl hq)
theorem AR.ior {x y : Int32} (hd : decode cc pc = .ok (.ior, 1)) (h : AR l own cc nL ret Ts R S (pc + 1) L (.int (x ||| y) :: st) σ X) : AR l own cc nL ret Ts R S pc L (.int y :: .int x :: st) σ X := by
  intro p e s m args below meth c D cI cL ad A C H locs ls Qc hP hS hl hq
  exact lv_ior C.1 C.2.1 hd (h p e s m args below meth c D cI cL ad A C H locs ls Qc hP hS hl hq)
theorem AR.ladd {x y : Int64} (hd : decode cc pc = .ok (.ladd, 1)) (h : AR l own cc nL ret Ts R S (pc + 1) L (.long (x + y) :: st) σ X) : AR l own cc nL ret Ts R S pc L (.long y :: .long x :: st) σ X := by
  intro p e s m args below meth c D cI cL ad A C H locs ls Qc hP hS hl hq
  exact lv_ladd C.1 C.2.1 hd (h p e s m args below meth c D cI cL ad A C H locs ls Qc hP hS hl hq)
theorem AR.lsub {x y : Int64} (hd : decode cc pc = .ok (.lsub, 1)) (h : AR l own cc nL ret Ts R S (pc + 1) L (.long (x - y) :: st) σ X) : AR l own cc nL ret Ts R S pc L (.long y :: .long x :: st) σ X := by
  intro p e s m args below meth c D cI cL ad A C H locs ls Qc hP hS hl hq
  exact lv_lsub C.1 C.2.1 hd (h p e s m args below meth c D cI cL ad A C H locs ls Qc hP hS hl hq)
theorem AR.lmul {x y : Int64} (hd : decode cc pc = .ok (.lmul, 1)) (h : AR l own cc nL ret Ts R S (pc + 1) L (.long (x * y) :: st) σ X) : AR l own cc nL ret Ts R S pc L (.long y :: .long x :: st) σ X := by
  intro p e s m args below meth c D cI cL ad A C H locs ls Qc hP hS hl hq
  exact lv_lmul C.1 C.2.1 hd (h p e s m args below meth c D cI cL ad A C H locs ls Qc hP hS hl hq)
theorem AR.lor {x y : Int64} (hd : decode cc pc = .ok (.lor, 1)) (h : AR l own cc nL ret Ts R S (pc + 1) L (.long (x ||| y) :: st) σ X) : AR l own cc nL ret Ts R S pc L (.long y :: .long x :: st) σ X := by
  intro p e s m args below meth c D cI cL ad A C H locs ls Qc hP hS hl hq
  exact lv_lor C.1 C.2.1 hd (h p e s m args below meth c D cI cL ad A C H locs ls Qc hP hS hl hq)
theorem AR.ishl {x y : Int32} (hd : decode cc pc = .ok (.ishl, 1)) (h : AR l own cc nL ret Ts R S (pc + 1) L (.int (x <<< (y &&& 31)) :: st) σ X) : AR l own cc nL ret Ts R S pc L (.int y :: .int x :: st) σ X := by
  intro p e s m args below meth c D cI cL ad A C H locs ls Qc hP hS hl hq
  exact lv_ishl C.1 C.2.1 hd (h p e s m args below meth c D cI cL ad A C H locs ls Qc hP hS hl hq)
theorem AR.ishr {x y : Int32} (hd : decode cc pc = .ok (.ishr, 1)) (h : AR l own cc nL ret Ts R S (pc + 1) L (.int (x >>> (y &&& 31)) :: st) σ X) : AR l own cc nL ret Ts R S pc L (.int y :: .int x :: st) σ X := by
  intro p e s m args below meth c D cI cL ad A C H locs ls Qc hP hS hl hq
  exact lv_ishr C.1 C.2.1 hd (h p e s m args below meth c D cI cL ad A C H locs ls Qc hP hS hl hq)
theorem AR.idiv {x y : Int32} (hd : decode cc pc = .ok (.idiv, 1)) (hne : ¬ y = 0) (h : AR l own cc nL ret Ts R S (pc + 1) L (.int (x / y) :: st) σ X) : AR l own cc nL ret Ts R S pc L (.int y :: .int x :: st) σ X := by
  intro p e s m args below meth c D cI cL ad A C H locs ls Qc hP hS hl hq
  exact lv_idiv C.1 C.2.1 hd hne (h p e s m args below meth c D cI cL ad A C H locs ls Qc hP hS hl hq)
theorem AR.irem {x y : Int32} (hd : decode cc pc = .ok (.irem, 1)) (hne : ¬ y = 0) (h : AR l own cc nL ret Ts R S (pc + 1) L (.int (x - x / y * y) :: st) σ X) : AR l own cc nL ret Ts R S pc L (.int y :: .int x :: st) σ X := by
  intro p e s m args below meth c D cI cL ad A C H locs ls Qc hP hS hl hq
  exact lv_irem C.1 C.2.1 hd hne (h p e s m args below meth c D cI cL ad A C H locs ls Qc hP hS hl hq)
theorem AR.ldiv {x y : Int64} (hd : decode cc pc = .ok (.ldiv, 1)) (hne : ¬ y = 0) (h : AR l own cc nL ret Ts R S (pc + 1) L (.long (x / y) :: st) σ X) : AR l own cc nL ret Ts R S pc L (.long y :: .long x :: st) σ X := by
  intro p e s m args below meth c D cI cL ad A C H locs ls Qc hP hS hl hq
  exact lv_ldiv C.1 C.2.1 hd hne (h p e s m args below meth c D cI cL ad A C H locs ls Qc hP hS hl hq)
theorem AR.lrem {x y : Int64} (hd : decode cc pc = .ok (.lrem, 1)) (hne : ¬ y = 0) (h : AR l own cc nL ret Ts R S (pc + 1) L (.long (x - x / y * y) :: st) σ X) : AR l own cc nL ret Ts R S pc L (.long y :: .long x :: st) σ X := by
  intro p e s m args below meth c D cI cL ad A C H locs ls Qc hP hS hl hq
  exact lv_lrem C.1 C.2.1 hd hne (h p e s m args below meth c D cI cL ad A C H locs ls Qc hP hS hl hq)
theorem AR.lshl {x : Int64} {y : Int32} (hd : decode cc pc = .ok (.lshl, 1)) (h : AR l own cc nL ret Ts R S (pc + 1) L (.long (x <<< (y.toInt64 &&& 63)) :: st) σ X) : AR l own cc nL ret Ts R S pc L (.int y :: .long x :: st) σ X := by
  intro p e s m args below meth c D cI cL ad A C H locs ls Qc hP hS hl hq
  exact lv_lshl C.1 C.2.1 hd rfl (h p e s m args below meth c D cI cL ad A C H locs ls Qc hP hS hl hq)
theorem AR.lshr {x : Int64} {y : Int32} (hd : decode cc pc = .ok (.lshr, 1)) (h : AR l own cc nL ret Ts R S (pc + 1) L (.long (x >>> (y.toInt64 &&& 63)) :: st) σ X) : AR l own cc nL ret Ts R S pc L (.int y :: .long x :: st) σ X := by
  intro p e s m args below meth c D cI cL ad A C H locs ls Qc hP hS hl hq
  exact lv_lshr C.1 C.2.1 hd rfl (h p e s m args below meth c D cI cL ad A C H locs ls Qc hP hS hl hq)
theorem AR.i2l {x : Int32} (hd : decode cc pc = .ok (.i2l, 1)) (h : AR l own cc nL ret Ts R S (pc + 1) L (.long x.toInt64 :: st) σ X) : AR l own cc nL ret Ts R S pc L (.int x :: st) σ X := by
  intro p e s m args below meth c D cI cL ad A C H locs ls Qc hP hS hl hq
  exact lv_i2l C.1 C.2.1 hd rfl (h p e s m args below meth c D cI cL ad A C H locs ls Qc hP hS hl hq)
theorem AR.l2i {x : Int64} (hd : decode cc pc = .ok (.l2i, 1)) (h : AR l own cc nL ret Ts R S (pc + 1) L (.int x.toInt32 :: st) σ X) : AR l own cc nL ret Ts R S pc L (.long x :: st) σ X := by
  intro p e s m args below meth c D cI cL ad A C H locs ls Qc hP hS hl hq
  exact lv_l2i C.1 C.2.1 hd rfl (h p e s m args below meth c D cI cL ad A C H locs ls Qc hP hS hl hq)
theorem AR.i2b {x : Int32} (hd : decode cc pc = .ok (.i2b, 1)) (h : AR l own cc nL ret Ts R S (pc + 1) L (.int x.toInt8.toInt32 :: st) σ X) : AR l own cc nL ret Ts R S pc L (.int x :: st) σ X := by
  intro p e s m args below meth c D cI cL ad A C H locs ls Qc hP hS hl hq
  exact lv_i2b C.1 C.2.1 hd rfl (h p e s m args below meth c D cI cL ad A C H locs ls Qc hP hS hl hq)
theorem AR.i2s {x : Int32} (hd : decode cc pc = .ok (.i2s, 1)) (h : AR l own cc nL ret Ts R S (pc + 1) L (.int x.toInt16.toInt32 :: st) σ X) : AR l own cc nL ret Ts R S pc L (.int x :: st) σ X := by
  intro p e s m args below meth c D cI cL ad A C H locs ls Qc hP hS hl hq
  exact lv_i2s C.1 C.2.1 hd rfl (h p e s m args below meth c D cI cL ad A C H locs ls Qc hP hS hl hq)
theorem AR.lcmp {x y : Int64} (hd : decode cc pc = .ok (.lcmp, 1)) (h : AR l own cc nL ret Ts R S (pc + 1) L (.int (lg_cmp x y) :: st) σ X) : AR l own cc nL ret Ts R S pc L (.long y :: .long x :: st) σ X := by
  intro p e s m args below meth c D cI cL ad A C H locs ls Qc hP hS hl hq
  exact W.lcmp C.1 C.2.1 hd (h p e s m args below meth c D cI cL ad A C H locs ls Qc hP hS hl hq)
theorem AR.dup {va : Value} (hd : decode cc pc = .ok (.dup, 1)) (hc : va.category = 1) (h : AR l own cc nL ret Ts R S (pc + 1) L (va :: va :: st) σ X) : AR l own cc nL ret Ts R S pc L (va :: st) σ X := by
  intro p e s m args below meth c D cI cL ad A C H locs ls Qc hP hS hl hq
  exact lv_dup C.1 C.2.1 hd ((mV_cat ad va).trans hc) (h p e s m args below meth c D cI cL ad A C H locs ls Qc hP hS hl hq)
theorem AR.dup2 {va vb : Value} (hd : decode cc pc = .ok (.dup2, 1)) (hc : va.category = 1) (hc2 : vb.category = 1) (h : AR l own cc nL ret Ts R S (pc + 1) L (va :: vb :: va :: vb :: st) σ X) : AR l own cc nL ret Ts R S pc L (va :: vb :: st) σ X := by
  intro p e s m args below meth c D cI cL ad A C H locs ls Qc hP hS hl hq
  exact lv_dup2_11 C.1 C.2.1 hd ((mV_cat ad va).trans hc) ((mV_cat ad vb).trans hc2) (h p e s m args below meth c D cI cL ad A C H locs ls Qc hP hS hl hq)
theorem AR.goto {off : Int} {tgt : Nat} (hd : decode cc pc = .ok (.goto off, 3)) (ht : (pc : Int) + off = (tgt : Int)) (h : AR l own cc nL ret Ts R S (tgt) L st σ X) : AR l own cc nL ret Ts R S pc L st σ X := by
  intro p e s m args below meth c D cI cL ad A C H locs ls Qc hP hS hl hq
  exact lv_goto C.1 C.2.1 hd ht (h p e s m args below meth c D cI cL ad A C H locs ls Qc hP hS hl hq)
theorem AR.ifnull {off : Int} {b : Nat} (hd : decode cc pc = .ok (.ifnull off, 3)) (h : AR l own cc nL ret Ts R S (pc + 3) L st σ X) : AR l own cc nL ret Ts R S pc L (.ref b :: st) σ X := by
  intro p e s m args below meth c D cI cL ad A C H locs ls Qc hP hS hl hq
  exact lv_ifnull C.1 C.2.1 hd (h p e s m args below meth c D cI cL ad A C H locs ls Qc hP hS hl hq)
theorem AR.if_eq {x : Int32} {off : Int} {tgt : Nat} (hd : decode cc pc = .ok (.ifCond .eq off, 3)) (ht : (pc : Int) + off = (tgt : Int)) (kt : x = 0 → AR l own cc nL ret Ts R S tgt L st σ X) (kf : ¬ x = 0 → AR l own cc nL ret Ts R S (pc + 3) L st σ X) : AR l own cc nL ret Ts R S pc L (.int x :: st) σ X := by
  intro p e s m args below meth c D cI cL ad A C H locs ls Qc hP hS hl hq
  exact lv_if_eq C.1 C.2.1 hd ht (fun z => kt z p e s m args below meth c D cI cL ad A C H locs ls Qc hP hS hl hq) (fun z => kf z p e s m args below meth c D cI cL ad A C H locs ls Qc hP hS hl hq)
theorem AR.icmp_eq {x y : Int32} {off : Int} {tgt : Nat} (hd : decode cc pc = .ok (.if_icmp .eq off, 3)) (ht : (pc : Int) + off = (tgt : Int)) (kt : x = y → AR l own cc nL ret Ts R S tgt L st σ X) (kf : ¬ x = y → AR l own cc nL ret Ts R S (pc + 3) L st σ X) : AR l own cc nL ret Ts R S pc L (.int y :: .int x :: st) σ X := by
  intro p e s m args below meth c D cI cL ad A C H locs ls Qc hP hS hl hq
  exact lv_icmp_eq C.1 C.2.1 hd ht (fun z => kt z p e s m args below meth c D cI cL ad A C H locs ls Qc hP hS hl hq) (fun z => kf z p e s m args below meth c D cI cL ad A C H locs ls Qc hP hS hl hq)
theorem AR.if_ne {x : Int32} {off : Int} {tgt : Nat} (hd : decode cc pc = .ok (.ifCond .ne off, 3)) (ht : (pc : Int) + off = (tgt : Int)) (kt : ¬ x = 0 → AR l own cc nL ret Ts R S tgt L st σ X) (kf : x = 0 → AR l own cc nL ret Ts R S (pc + 3) L st σ X) : AR l own cc nL ret Ts R S pc L (.int x :: st) σ X := by
  intro p e s m args below meth c D cI cL ad A C H locs ls Qc hP hS hl hq
  exact lv_if_ne C.1 C.2.1 hd ht (fun z => kt z p e s m args below meth c D cI cL ad A C H locs ls Qc hP hS hl hq) (fun z => kf z p e s m args below meth c D cI cL ad A C H locs ls Qc hP hS hl hq)
theorem AR.icmp_ne {x y : Int32} {off : Int} {tgt : Nat} (hd : decode cc pc = .ok (.if_icmp .ne off, 3)) (ht : (pc : Int) + off = (tgt : Int)) (kt : ¬ x = y → AR l own cc nL ret Ts R S tgt L st σ X) (kf : x = y → AR l own cc nL ret Ts R S (pc + 3) L st σ X) : AR l own cc nL ret Ts R S pc L (.int y :: .int x :: st) σ X := by
  intro p e s m args below meth c D cI cL ad A C H locs ls Qc hP hS hl hq
  exact lv_icmp_ne C.1 C.2.1 hd ht (fun z => kt z p e s m args below meth c D cI cL ad A C H locs ls Qc hP hS hl hq) (fun z => kf z p e s m args below meth c D cI cL ad A C H locs ls Qc hP hS hl hq)
theorem AR.if_lt {x : Int32} {off : Int} {tgt : Nat} (hd : decode cc pc = .ok (.ifCond .lt off, 3)) (ht : (pc : Int) + off = (tgt : Int)) (kt : x < 0 → AR l own cc nL ret Ts R S tgt L st σ X) (kf : ¬ x < 0 → AR l own cc nL ret Ts R S (pc + 3) L st σ X) : AR l own cc nL ret Ts R S pc L (.int x :: st) σ X := by
  intro p e s m args below meth c D cI cL ad A C H locs ls Qc hP hS hl hq
  exact lv_if_lt C.1 C.2.1 hd ht (fun z => kt z p e s m args below meth c D cI cL ad A C H locs ls Qc hP hS hl hq) (fun z => kf z p e s m args below meth c D cI cL ad A C H locs ls Qc hP hS hl hq)
theorem AR.icmp_lt {x y : Int32} {off : Int} {tgt : Nat} (hd : decode cc pc = .ok (.if_icmp .lt off, 3)) (ht : (pc : Int) + off = (tgt : Int)) (kt : x < y → AR l own cc nL ret Ts R S tgt L st σ X) (kf : ¬ x < y → AR l own cc nL ret Ts R S (pc + 3) L st σ X) : AR l own cc nL ret Ts R S pc L (.int y :: .int x :: st) σ X := by
  intro p e s m args below meth c D cI cL ad A C H locs ls Qc hP hS hl hq
  exact lv_icmp_lt C.1 C.2.1 hd ht (fun z => kt z p e s m args below meth c D cI cL ad A C H locs ls Qc hP hS hl hq) (fun z => kf z p e s m args below meth c D cI cL ad A C H locs ls Qc hP hS hl hq)
theorem AR.if_ge {x : Int32} {off : Int} {tgt : Nat} (hd : decode cc pc = .ok (.ifCond .ge off, 3)) (ht : (pc : Int) + off = (tgt : Int)) (kt : 0 ≤ x → AR l own cc nL ret Ts R S tgt L st σ X) (kf : ¬ 0 ≤ x → AR l own cc nL ret Ts R S (pc + 3) L st σ X) : AR l own cc nL ret Ts R S pc L (.int x :: st) σ X := by
  intro p e s m args below meth c D cI cL ad A C H locs ls Qc hP hS hl hq
  exact lv_if_ge C.1 C.2.1 hd ht (fun z => kt z p e s m args below meth c D cI cL ad A C H locs ls Qc hP hS hl hq) (fun z => kf z p e s m args below meth c D cI cL ad A C H locs ls Qc hP hS hl hq)
theorem AR.icmp_ge {x y : Int32} {off : Int} {tgt : Nat} (hd : decode cc pc = .ok (.if_icmp .ge off, 3)) (ht : (pc : Int) + off = (tgt : Int)) (kt : y ≤ x → AR l own cc nL ret Ts R S tgt L st σ X) (kf : ¬ y ≤ x → AR l own cc nL ret Ts R S (pc + 3) L st σ X) : AR l own cc nL ret Ts R S pc L (.int y :: .int x :: st) σ X := by
  intro p e s m args below meth c D cI cL ad A C H locs ls Qc hP hS hl hq
  exact lv_icmp_ge C.1 C.2.1 hd ht (fun z => kt z p e s m args below meth c D cI cL ad A C H locs ls Qc hP hS hl hq) (fun z => kf z p e s m args below meth c D cI cL ad A C H locs ls Qc hP hS hl hq)
theorem AR.if_gt {x : Int32} {off : Int} {tgt : Nat} (hd : decode cc pc = .ok (.ifCond .gt off, 3)) (ht : (pc : Int) + off = (tgt : Int)) (kt : 0 < x → AR l own cc nL ret Ts R S tgt L st σ X) (kf : ¬ 0 < x → AR l own cc nL ret Ts R S (pc + 3) L st σ X) : AR l own cc nL ret Ts R S pc L (.int x :: st) σ X := by
  intro p e s m args below meth c D cI cL ad A C H locs ls Qc hP hS hl hq
  exact lv_if_gt C.1 C.2.1 hd ht (fun z => kt z p e s m args below meth c D cI cL ad A C H locs ls Qc hP hS hl hq) (fun z => kf z p e s m args below meth c D cI cL ad A C H locs ls Qc hP hS hl hq)
theorem AR.icmp_gt {x y : Int32} {off : Int} {tgt : Nat} (hd : decode cc pc = .ok (.if_icmp .gt off, 3)) (ht : (pc : Int) + off = (tgt : Int)) (kt : y < x → AR l own cc nL ret Ts R S tgt L st σ X) (kf : ¬ y < x → AR l own cc nL ret Ts R S (pc + 3) L st σ X) : AR l own cc nL ret Ts R S pc L (.int y :: .int x :: st) σ X := by
  intro p e s m args below meth c D cI cL ad A C H locs ls Qc hP hS hl hq
  exact lv_icmp_gt C.1 C.2.1 hd ht (fun z => kt z p e s m args below meth c D cI cL ad A C H locs ls Qc hP hS hl hq) (fun z => kf z p e s m args below meth c D cI cL ad A C H locs ls Qc hP hS hl hq)
theorem AR.if_le {x : Int32} {off : Int} {tgt : Nat} (hd : decode cc pc = .ok (.ifCond .le off, 3)) (ht : (pc : Int) + off = (tgt : Int)) (kt : x ≤ 0 → AR l own cc nL ret Ts R S tgt L st σ X) (kf : ¬ x ≤ 0 → AR l own cc nL ret Ts R S (pc + 3) L st σ X) : AR l own cc nL ret Ts R S pc L (.int x :: st) σ X := by
  intro p e s m args below meth c D cI cL ad A C H locs ls Qc hP hS hl hq
  exact lv_if_le C.1 C.2.1 hd ht (fun z => kt z p e s m args below meth c D cI cL ad A C H locs ls Qc hP hS hl hq) (fun z => kf z p e s m args below meth c D cI cL ad A C H locs ls Qc hP hS hl hq)
theorem AR.icmp_le {x y : Int32} {off : Int} {tgt : Nat} (hd : decode cc pc = .ok (.if_icmp .le off, 3)) (ht : (pc : Int) + off = (tgt : Int)) (kt : x ≤ y → AR l own cc nL ret Ts R S tgt L st σ X) (kf : ¬ x ≤ y → AR l own cc nL ret Ts R S (pc + 3) L st σ X) : AR l own cc nL ret Ts R S pc L (.int y :: .int x :: st) σ X := by
  intro p e s m args below meth c D cI cL ad A C H locs ls Qc hP hS hl hq
  exact lv_icmp_le C.1 C.2.1 hd ht (fun z => kt z p e s m args below meth c D cI cL ad A C H locs ls Qc hP hS hl hq) (fun z => kf z p e s m args below meth c D cI cL ad A C H locs ls Qc hP hS hl hq)
theorem AR.lookup {dflt : Int} {ps : Array (Int × Int)} {len : Nat} {x : Int32} {off : Int} {tgt : Nat} (hd : decode cc pc = .ok (.lookupswitch dflt ps, len)) (hp : (ps.toList.zip (ps.toList.drop 1)).all (fun (a, next) => a.1 < next.1) = true) (ho : Op.lookupswitch.offset ps.toList dflt x.toInt = off) (ht : (pc : Int) + off = (tgt : Int)) (h : AR l own cc nL ret Ts R S tgt L st σ X) : AR l own cc nL ret Ts R S pc L (.int x :: st) σ X := by
  intro p e s m args below meth c D cI cL ad A C H locs ls Qc hP hS hl hq
  exact lv_lookup C.1 C.2.1 hd hp ho ht (h p e s m args below meth c D cI cL ad A C H locs ls Qc hP hS hl hq)
theorem AR.tableOut {dflt lo hi : Int} {offs : Array Int} {len : Nat} {x : Int32} {tgt : Nat} (hd : decode cc pc = .ok (.tableswitch dflt lo hi offs, len)) (ho : x.toInt < lo ∨ hi < x.toInt) (ht : (pc : Int) + dflt = (tgt : Int)) (h : AR l own cc nL ret Ts R S tgt L st σ X) : AR l own cc nL ret Ts R S pc L (.int x :: st) σ X := by
  intro p e s m args below meth c D cI cL ad A C H locs ls Qc hP hS hl hq
  exact lv_tableOut C.1 C.2.1 hd ho ht (h p e s m args below meth c D cI cL ad A C H locs ls Qc hP hS hl hq)
theorem AR.tableIn {dflt lo hi : Int} {offs : Array Int} {len : Nat} {x : Int32} {off : Int} {tgt : Nat} (hd : decode cc pc = .ok (.tableswitch dflt lo hi offs, len)) (h1 : ¬ x.toInt < lo) (h2 : ¬ hi < x.toInt) (ho : offs[(x.toInt - lo).toNat]? = some off) (ht : (pc : Int) + off = (tgt : Int)) (h : AR l own cc nL ret Ts R S tgt L st σ X) : AR l own cc nL ret Ts R S pc L (.int x :: st) σ X := by
  intro p e s m args below meth c D cI cL ad A C H locs ls Qc hP hS hl hq
  exact lv_tableIn C.1 C.2.1 hd h1 h2 ho ht (h p e s m args below meth c D cI cL ad A C H locs ls Qc hP hS hl hq)
theorem AR.pick {L2 : List (Nat × Value)} (ks : List Nat) (hk : lv_pick L ks = L2) (h : AR l own cc nL ret Ts R S pc L2 st σ X) : AR l own cc nL ret Ts R S pc L st σ X := by
  intro p e s m args below meth c D cI cL ad A C H locs ls Qc hP hS hl hq
  exact h p e s m args below meth c D cI cL ad A C H locs ls Qc hP hS (lv_sub hl ks (by rw [mL_pick, hk])) hq
theorem AR.getf {ci n j d idx b : Nat} {ds : List Nat} {N : Nat} {Cn : String} {T : u_T} {v : Value} (hd : decode cc pc = .ok (.getfield idx, 3)) (hb : S[b]? = some (ci + 2, n, ds)) (hj : ds[j]? = some d) (hc : vwCl[ci]? = some (Cn, T, N)) (hk : j < N) (hin : ∀ w ∈ u_ws Cn T N, w ∈ Ts) (hw : Cond.fieldLink own idx (T j).1 (T j).2.1 (T j).2.2.1 ∈ Ts) (hv : fV σ b j d = v) (h : AR l own cc nL ret Ts R S (pc + 3) L (v :: st) σ X) : AR l own cc nL ret Ts R S pc L (.ref b :: st) σ X := by
  intro p e s m args below meth c D cI cL ad A C H locs ls Qc hP hS hl hq
  exact va_get (own := own) (ref := (T j).1) C.1 C.2.1 C.2.2.2.2.2.2.1 hin C.2.2.2.2.1 C.2.2.2.2.2.2.2.2.1 hP b (wd_at hb) hc j hk (C.2.2.2.2.2.2.1 _ hw) (fun _ z => z) (fL_get hj) hd (by rw [hv]; exact h p e s m args below meth c D cI cL ad A C H locs ls Qc hP hS hl hq)
theorem AR.getfN {ci n j d idx b : Nat} {ds : List Nat} {N : Nat} {Cn host : String} {T : u_T} {v : Value} (hd : decode cc pc = .ok (.getfield idx, 3)) (hb : S[b]? = some (ci + 2, n, ds)) (hj : ds[j]? = some d) (hc : vwCl[ci]? = some (Cn, T, N)) (hk : j < N) (hin : ∀ w ∈ u_ws Cn T N, w ∈ Ts) (hw : Cond.fieldLinkNest own idx (T j).1 (T j).2.1 (T j).2.2.1 host ∈ tables_1) (hv : fV σ b j d = v) (h : AR l own cc nL ret Ts R S (pc + 3) L (v :: st) σ X) : AR l own cc nL ret Ts R S pc L (.ref b :: st) σ X := by
  intro p e s m args below meth c D cI cL ad A C H locs ls Qc hP hS hl hq
  exact va_getN (own := own) (ref := (T j).1) C.1 C.2.1 C.2.2.2.2.2.2.1 hin C.2.2.2.2.1 C.2.2.2.2.2.2.2.2.1 hP b (wd_at hb) hc j hk (va_Nw.use rfl (C.2.2.2.2.2.2.2.1 _ hw rfl)) (fun _ z => z) (fL_get hj) hd (by rw [hv]; exact h p e s m args below meth c D cI cL ad A C H locs ls Qc hP hS hl hq)
theorem AR.putI {ci n j idx b : Nat} {ds : List Nat} {N : Nat} {Cn : String} {T : u_T} {ty0 : Nat → FieldType} {ty : FieldType} {x : Int32} (hd : decode cc pc = .ok (.putfield idx, 3)) (hb : S[b]? = some (ci + 2, n, ds)) (hj : ds[j]? = some 0) (hc : vwCl[ci]? = some (Cn, T, N)) (hk : j < N) (hin : ∀ w ∈ u_ws Cn T N, w ∈ Ts) (hty : ∀ k, k < N → parseFieldDescriptor (T k).2.2.1 = some (ty0 k)) (hnm : ∀ a, a < N → ∀ b, b < N → a ≠ b → (T a).2.1 ≠ (T b).2.1) (hw : Cond.fieldLink own idx (T j).1 (T j).2.1 (T j).2.2.1 ∈ Ts) (hfin : (T j).2.2.2 = false) (hpd : parseFieldDescriptor (T j).2.2.1 = some ty) (hna : narrow ty (.int x) = .int x) (hfi : fits ty (.int x) = true) (h : AR l own cc nL ret Ts R S (pc + 3) L st (uI σ b j x) X) : AR l own cc nL ret Ts R S pc L (.int x :: .ref b :: st) σ X := by
  intro p e s m args below meth c D cI cL ad A C H locs ls Qc hP hS hl hq
  refine va_put (own := own) (ref := (T j).1) C.1 C.2.1 C.2.2.2.2.2.2.1 hin ty0 hty hnm C.2.2.2.2.1 C.2.2.2.2.2.2.2.2.1 hP (wd_D C.2.2.2.2.2.2.2.2.2.1) hS b (wd_at hb) hc j hk (C.2.2.2.2.2.2.1 _ hw) (fun _ z => z) hfin hpd hna hfi (by rw [fL_len]; exact (List.getElem?_eq_some_iff.mp hj).1) hd (fun H1 locs1 hP1 hD1 hS1 => ?_)
  have hP1 : va_P D vwCl ((wd S cI cL ad σ).set b (ad b, .inr (ci, (fL ad σ b ds).set j (.int x)))) H1 := hP1
  rw [fL_setI hj, wd_set (e := .inr (ci, fL ad (uI σ b j x) b ds)) hb (fun q d' hq => eE_I cI cL ad σ hq j x d') rfl] at hP1
  exact h p e s m args below meth c D cI cL ad A C H1 locs1 ls Qc hP1 hS1 hl hq
theorem AR.putL {ci n j idx b : Nat} {ds : List Nat} {N : Nat} {Cn : String} {T : u_T} {ty0 : Nat → FieldType} {ty : FieldType} {x : Int64} (hd : decode cc pc = .ok (.putfield idx, 3)) (hb : S[b]? = some (ci + 2, n, ds)) (hj : ds[j]? = some 1) (hc : vwCl[ci]? = some (Cn, T, N)) (hk : j < N) (hin : ∀ w ∈ u_ws Cn T N, w ∈ Ts) (hty : ∀ k, k < N → parseFieldDescriptor (T k).2.2.1 = some (ty0 k)) (hnm : ∀ a, a < N → ∀ b, b < N → a ≠ b → (T a).2.1 ≠ (T b).2.1) (hw : Cond.fieldLink own idx (T j).1 (T j).2.1 (T j).2.2.1 ∈ Ts) (hfin : (T j).2.2.2 = false) (hpd : parseFieldDescriptor (T j).2.2.1 = some ty) (hna : narrow ty (.long x) = .long x) (hfi : fits ty (.long x) = true) (h : AR l own cc nL ret Ts R S (pc + 3) L st (uL σ b j x) X) : AR l own cc nL ret Ts R S pc L (.long x :: .ref b :: st) σ X := by
  intro p e s m args below meth c D cI cL ad A C H locs ls Qc hP hS hl hq
  refine va_put (own := own) (ref := (T j).1) C.1 C.2.1 C.2.2.2.2.2.2.1 hin ty0 hty hnm C.2.2.2.2.1 C.2.2.2.2.2.2.2.2.1 hP (wd_D C.2.2.2.2.2.2.2.2.2.1) hS b (wd_at hb) hc j hk (C.2.2.2.2.2.2.1 _ hw) (fun _ z => z) hfin hpd hna hfi (by rw [fL_len]; exact (List.getElem?_eq_some_iff.mp hj).1) hd (fun H1 locs1 hP1 hD1 hS1 => ?_)
  have hP1 : va_P D vwCl ((wd S cI cL ad σ).set b (ad b, .inr (ci, (fL ad σ b ds).set j (.long x)))) H1 := hP1
  rw [fL_setL hj, wd_set (e := .inr (ci, fL ad (uL σ b j x) b ds)) hb (fun q d' hq => eE_L cI cL ad σ hq j x d') rfl] at hP1
  exact h p e s m args below meth c D cI cL ad A C H1 locs1 ls Qc hP1 hS1 hl hq
theorem AR.putIN {ci n j idx b : Nat} {ds : List Nat} {N : Nat} {Cn : String} {T : u_T} {ty0 : Nat → FieldType} {ty : FieldType} {x : Int32} (hd : decode cc pc = .ok (.putfield idx, 3)) (hb : S[b]? = some (ci + 2, n, ds)) (hj : ds[j]? = some 0) (hc : vwCl[ci]? = some (Cn, T, N)) (hk : j < N) (hin : ∀ w ∈ u_ws Cn T N, w ∈ Ts) (hty : ∀ k, k < N → parseFieldDescriptor (T k).2.2.1 = some (ty0 k)) (hnm : ∀ a, a < N → ∀ b, b < N → a ≠ b → (T a).2.1 ≠ (T b).2.1) {host : String} (hw : Cond.fieldLinkNest own idx (T j).1 (T j).2.1 (T j).2.2.1 host ∈ tables_1) (hfin : (T j).2.2.2 = false) (hpd : parseFieldDescriptor (T j).2.2.1 = some ty) (hna : narrow ty (.int x) = .int x) (hfi : fits ty (.int x) = true) (h : AR l own cc nL ret Ts R S (pc + 3) L st (uI σ b j x) X) : AR l own cc nL ret Ts R S pc L (.int x :: .ref b :: st) σ X := by
  intro p e s m args below meth c D cI cL ad A C H locs ls Qc hP hS hl hq
  refine va_putN (own := own) (ref := (T j).1) C.1 C.2.1 C.2.2.2.2.2.2.1 hin ty0 hty hnm C.2.2.2.2.1 C.2.2.2.2.2.2.2.2.1 hP (wd_D C.2.2.2.2.2.2.2.2.2.1) hS b (wd_at hb) hc j hk (va_Nw.use rfl (C.2.2.2.2.2.2.2.1 _ hw rfl)) (fun _ z => z) hfin hpd hna hfi (by rw [fL_len]; exact (List.getElem?_eq_some_iff.mp hj).1) hd (fun H1 locs1 hP1 hD1 hS1 => ?_)
  have hP1 : va_P D vwCl ((wd S cI cL ad σ).set b (ad b, .inr (ci, (fL ad σ b ds).set j (.int x)))) H1 := hP1
  rw [fL_setI hj, wd_set (e := .inr (ci, fL ad (uI σ b j x) b ds)) hb (fun q d' hq => eE_I cI cL ad σ hq j x d') rfl] at hP1
  exact h p e s m args below meth c D cI cL ad A C H1 locs1 ls Qc hP1 hS1 hl hq
theorem AR.putLN {ci n j idx b : Nat} {ds : List Nat} {N : Nat} {Cn : String} {T : u_T} {ty0 : Nat → FieldType} {ty : FieldType} {x : Int64} (hd : decode cc pc = .ok (.putfield idx, 3)) (hb : S[b]? = some (ci + 2, n, ds)) (hj : ds[j]? = some 1) (hc : vwCl[ci]? = some (Cn, T, N)) (hk : j < N) (hin : ∀ w ∈ u_ws Cn T N, w ∈ Ts) (hty : ∀ k, k < N → parseFieldDescriptor (T k).2.2.1 = some (ty0 k)) (hnm : ∀ a, a < N → ∀ b, b < N → a ≠ b → (T a).2.1 ≠ (T b).2.1) {host : String} (hw : Cond.fieldLinkNest own idx (T j).1 (T j).2.1 (T j).2.2.1 host ∈ tables_1) (hfin : (T j).2.2.2 = false) (hpd : parseFieldDescriptor (T j).2.2.1 = some ty) (hna : narrow ty (.long x) = .long x) (hfi : fits ty (.long x) = true) (h : AR l own cc nL ret Ts R S (pc + 3) L st (uL σ b j x) X) : AR l own cc nL ret Ts R S pc L (.long x :: .ref b :: st) σ X := by
  intro p e s m args below meth c D cI cL ad A C H locs ls Qc hP hS hl hq
  refine va_putN (own := own) (ref := (T j).1) C.1 C.2.1 C.2.2.2.2.2.2.1 hin ty0 hty hnm C.2.2.2.2.1 C.2.2.2.2.2.2.2.2.1 hP (wd_D C.2.2.2.2.2.2.2.2.2.1) hS b (wd_at hb) hc j hk (va_Nw.use rfl (C.2.2.2.2.2.2.2.1 _ hw rfl)) (fun _ z => z) hfin hpd hna hfi (by rw [fL_len]; exact (List.getElem?_eq_some_iff.mp hj).1) hd (fun H1 locs1 hP1 hD1 hS1 => ?_)
  have hP1 : va_P D vwCl ((wd S cI cL ad σ).set b (ad b, .inr (ci, (fL ad σ b ds).set j (.long x)))) H1 := hP1
  rw [fL_setL hj, wd_set (e := .inr (ci, fL ad (uL σ b j x) b ds)) hb (fun q d' hq => eE_L cI cL ad σ hq j x d') rfl] at hP1
  exact h p e s m args below meth c D cI cL ad A C H1 locs1 ls Qc hP1 hS1 hl hq
theorem AR.iaload {n b : Nat} {ds : List Nat} {i : Int32} (hd : decode cc pc = .ok (.iaload, 1)) (hb : S[b]? = some (0, n, ds)) (hi : ¬ (i < 0 ∨ n ≤ i.toNatClampNeg)) (h : AR l own cc nL ret Ts R S (pc + 1) L (.int (σ.1 b i.toNatClampNeg) :: st) σ X) : AR l own cc nL ret Ts R S pc L (.int i :: .ref b :: st) σ X := by
  intro p e s m args below meth c D cI cL ad A C H locs ls Qc hP hS hl hq
  exact va_iald C.1 C.2.1 C.2.2.2.2.2.2.2.2.1 hP b 0 (wd_at hb) rfl hi hd (h p e s m args below meth c D cI cL ad A C H locs ls Qc hP hS hl hq)
theorem AR.laload {n b : Nat} {ds : List Nat} {i : Int32} (hd : decode cc pc = .ok (.laload, 1)) (hb : S[b]? = some (1, n, ds)) (hi : ¬ (i < 0 ∨ n ≤ i.toNatClampNeg)) (h : AR l own cc nL ret Ts R S (pc + 1) L (.long (σ.2 b i.toNatClampNeg) :: st) σ X) : AR l own cc nL ret Ts R S pc L (.int i :: .ref b :: st) σ X := by
  intro p e s m args below meth c D cI cL ad A C H locs ls Qc hP hS hl hq
  exact va_lald C.1 C.2.1 C.2.2.2.2.2.2.2.2.1 hP b 1 (wd_at hb) rfl hi hd (h p e s m args below meth c D cI cL ad A C H locs ls Qc hP hS hl hq)
theorem AR.iastore {n b : Nat} {ds : List Nat} {i x : Int32} (hd : decode cc pc = .ok (.iastore, 1)) (hb : S[b]? = some (0, n, ds)) (hi : ¬ (i < 0 ∨ n ≤ i.toNatClampNeg)) (h : AR l own cc nL ret Ts R S (pc + 1) L st (uI σ b i.toNatClampNeg x) X) : AR l own cc nL ret Ts R S pc L (.int x :: .int i :: .ref b :: st) σ X := by
  intro p e s m args below meth c D cI cL ad A C H locs ls Qc hP hS hl hq
  refine va_iast C.1 C.2.1 C.2.2.2.2.2.2.2.2.1 hP (wd_D C.2.2.2.2.2.2.2.2.2.1) hS b 0 (wd_at hb) rfl hi hd (fun H1 locs1 hP1 hD1 hS1 => ?_)
  rw [wd_set (e := .inl (cI, n, .inl (upd (σ.1 b) i.toNatClampNeg x))) hb (fun q d' hq => eE_I cI cL ad σ hq i.toNatClampNeg x d') (by show Sum.inl (_, _, Sum.inl _) = _; rw [uI_same])] at hP1
  exact h p e s m args below meth c D cI cL ad A C H1 locs1 ls Qc hP1 hS1 hl hq
theorem AR.lastore {n b : Nat} {ds : List Nat} {i : Int32} {x : Int64} (hd : decode cc pc = .ok (.lastore, 1)) (hb : S[b]? = some (1, n, ds)) (hi : ¬ (i < 0 ∨ n ≤ i.toNatClampNeg)) (h : AR l own cc nL ret Ts R S (pc + 1) L st (uL σ b i.toNatClampNeg x) X) : AR l own cc nL ret Ts R S pc L (.long x :: .int i :: .ref b :: st) σ X := by
  intro p e s m args below meth c D cI cL ad A C H locs ls Qc hP hS hl hq
  refine va_last C.1 C.2.1 C.2.2.2.2.2.2.2.2.1 hP (wd_D C.2.2.2.2.2.2.2.2.2.1) hS b 1 (wd_at hb) rfl hi hd (fun H1 locs1 hP1 hD1 hS1 => ?_)
  rw [wd_set (e := .inl (cL, n, .inr (.inl (vp_updL (σ.2 b) i.toNatClampNeg x)))) hb (fun q d' hq => eE_L cI cL ad σ hq i.toNatClampNeg x d') (by show Sum.inl (_, _, Sum.inr (Sum.inl _)) = _; rw [uL_same])] at hP1
  exact h p e s m args below meth c D cI cL ad A C H1 locs1 ls Qc hP1 hS1 hl hq
theorem AR.alen {n b : Nat} {ds : List Nat} (hd : decode cc pc = .ok (.arraylength, 1)) (hb : S[b]? = some (0, n, ds)) (h : AR l own cc nL ret Ts R S (pc + 1) L (.int (nI n) :: st) σ X) : AR l own cc nL ret Ts R S pc L (.ref b :: st) σ X := by
  intro p e s m args below meth c D cI cL ad A C H locs ls Qc hP hS hl hq
  exact va_alen (ty := .int) C.1 C.2.1 C.2.2.2.2.2.2.2.2.1 hP b 0 (wd_at hb) rfl rfl hd (h p e s m args below meth c D cI cL ad A C H locs ls Qc hP hS hl hq)
theorem AR.alenL {n b : Nat} {ds : List Nat} (hd : decode cc pc = .ok (.arraylength, 1)) (hb : S[b]? = some (1, n, ds)) (h : AR l own cc nL ret Ts R S (pc + 1) L (.int (nI n) :: st) σ X) : AR l own cc nL ret Ts R S pc L (.ref b :: st) σ X := by
  intro p e s m args below meth c D cI cL ad A C H locs ls Qc hP hS hl hq
  exact va_alen (ty := .long) C.1 C.2.1 C.2.2.2.2.2.2.2.2.1 hP b 1 (wd_at hb) rfl rfl hd (h p e s m args below meth c D cI cL ad A C H locs ls Qc hP hS hl hq)
theorem AR.iret {x : Int32} (hr : ret = some .int) (hd : decode cc pc = .ok (.ireturn, 1)) (hX : X = (some (.int x), σ)) : AR l own cc nL ret Ts R S pc L [.int x] σ X := by
  intro p e s m args below meth c D cI cL ad A C H locs ls Qc hP hS hl hq
  subst hX
  exact W.iret C.1 C.2.1 (C.2.2.2.1.trans hr) (fun t ht hW => hq t H locs ht hW hP hS) hS.2.2 hd C.2.2.2.2.2.1
theorem AR.zret {x : Int32} (hr : ret = some .boolean) (hz : x = 0 ∨ x = 1) (hd : decode cc pc = .ok (.ireturn, 1)) (hX : X = (some (.int x), σ)) : AR l own cc nL ret Ts R S pc L [.int x] σ X := by
  intro p e s m args below meth c D cI cL ad A C H locs ls Qc hP hS hl hq
  subst hX
  exact W.zret C.1 C.2.1 (C.2.2.2.1.trans hr) (by rcases hz with rfl | rfl <;> rfl) (fun t ht hW => hq t H locs ht hW hP hS) hS.2.2 hd C.2.2.2.2.2.1
theorem AR.lret {x : Int64} (hr : ret = some .long) (hd : decode cc pc = .ok (.lreturn, 1)) (hX : X = (some (.long x), σ)) : AR l own cc nL ret Ts R S pc L [.long x] σ X := by
  intro p e s m args below meth c D cI cL ad A C H locs ls Qc hP hS hl hq
  subst hX
  exact W.lret C.1 C.2.1 (C.2.2.2.1.trans hr) (fun t ht hW => hq t H locs ht hW hP hS) hS.2.2 hd C.2.2.2.2.2.1
theorem AR.vret (hr : ret = none) (hd : decode cc pc = .ok (.return_, 1)) (hX : X = (none, σ)) : AR l own cc nL ret Ts R S pc L [] σ X := by
  intro p e s m args below meth c D cI cL ad A C H locs ls Qc hP hS hl hq
  subst hX
  exact W.vret C.1 C.2.1 (C.2.2.2.1.trans hr) (fun t ht hW => hq t H locs ht hW hP hS) hS.2.2 hd C.2.2.2.2.2.1
end ARrules
