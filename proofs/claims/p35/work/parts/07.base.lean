/-! the worlds of the class (SC) and of the model (SM), their groups of cells, and what the functions and contracts of the methods are made of -/
def SC : Shp := [(8 + 2, 0, [1 + 2, 5 + 2, 19 + 2, 20 + 2, 22 + 2, 27 + 2, 30 + 2, 32 + 2, 37 + 2, 40 + 2, 44 + 2, 0, 0, 0]), (7 + 2, 0, [2 + 2, 3 + 2, 4 + 2]), (0, 4, []), (0, 4, []), (0, 400, []), (4 + 2, 0, [0, 0, 0, 6 + 2, 7 + 2, 8 + 2, 9 + 2, 10 + 2, 11 + 2]), (0, 5, []), (0, 5, []), (0, 15, []), (0, 15, []), (0, 15, []), (1, 15, []), (4 + 2, 0, [0, 0, 0, 13 + 2, 14 + 2, 15 + 2, 16 + 2, 17 + 2, 18 + 2]), (0, 5, []), (0, 5, []), (0, 15, []), (0, 15, []), (0, 15, []), (1, 15, []), (6 + 2, 0, [4 + 2, 12 + 2, 0, 0, 0, 0]), (0 + 2, 0, [5 + 2, 21 + 2, 0, 0]), (0, 5, []), (5 + 2, 0, [20 + 2, 5 + 2, 23 + 2, 24 + 2, 25 + 2, 0, 26 + 2, 0, 0]), (0, 600, []), (1, 600, []), (0, 600, []), (0, 600, []), (1 + 2, 0, [22 + 2, 20 + 2, 5 + 2, 28 + 2, 29 + 2, 0, 0, 0, 0, 1]), (0, 6, []), (0, 6, []), (0 + 2, 0, [5 + 2, 31 + 2, 0, 0]), (0, 5, []), (5 + 2, 0, [30 + 2, 5 + 2, 33 + 2, 34 + 2, 35 + 2, 0, 36 + 2, 0, 0]), (0, 600, []), (1, 600, []), (0, 600, []), (0, 600, []), (1 + 2, 0, [32 + 2, 30 + 2, 5 + 2, 38 + 2, 39 + 2, 0, 0, 0, 0, 1]), (0, 6, []), (0, 6, []), (2 + 2, 0, [41 + 2, 42 + 2, 43 + 2, 0]), (0, 36, []), (0, 6, []), (0, 6, []), (3 + 2, 0, [20 + 2, 30 + 2, 32 + 2, 37 + 2, 45 + 2, 46 + 2, 0]), (0, 15, []), (0, 15, [])]
def SM : Shp := [(9 + 2, 0, [0, 0, 0, 0, 0, 1 + 2, 2 + 2, 3 + 2, 4 + 2, 5 + 2, 6 + 2, 0, 0, 0, 0, 7 + 2, 8 + 2, 9 + 2, 10 + 2, 11 + 2, 12 + 2, 13 + 2, 14 + 2, 0, 0, 15 + 2, 16 + 2, 17 + 2, 18 + 2, 0, 19 + 2, 20 + 2, 21 + 2, 22 + 2, 23 + 2, 24 + 2, 0]), (0, 5, []), (0, 5, []), (0, 15, []), (0, 15, []), (0, 15, []), (0, 5, []), (0, 5, []), (0, 5, []), (0, 15, []), (0, 15, []), (0, 15, []), (0, 6, []), (0, 7, []), (0, 5, []), (0, 600, []), (0, 3500, []), (0, 6, []), (0, 5, []), (0, 36, []), (0, 6, []), (0, 4, []), (0, 4, []), (0, 400, []), (0, 100, [])]
def Grp (g : Nat) : Prop := SC[g]? = some (0 + 2, 0, [5 + 2, (g + 1) + 2, 0, 0]) ∧ SC[g + 1]? = some (0, 5, []) ∧ SC[g + 2]? = some (5 + 2, 0, [g + 2, 5 + 2, (g + 3) + 2, (g + 4) + 2, (g + 5) + 2, 0, (g + 6) + 2, 0, 0]) ∧ SC[g + 3]? = some (0, 600, []) ∧ SC[g + 4]? = some (1, 600, []) ∧ SC[g + 5]? = some (0, 600, []) ∧ SC[g + 6]? = some (0, 600, []) ∧ SC[g + 7]? = some (1 + 2, 0, [(g + 2) + 2, g + 2, 5 + 2, (g + 8) + 2, (g + 9) + 2, 0, 0, 0, 0, 1]) ∧ SC[g + 8]? = some (0, 6, []) ∧ SC[g + 9]? = some (0, 6, [])
def Ppl (b : Nat) : Prop := SC[b]? = some (4 + 2, 0, [0, 0, 0, (b + 1) + 2, (b + 2) + 2, (b + 3) + 2, (b + 4) + 2, (b + 5) + 2, (b + 6) + 2]) ∧ SC[b + 1]? = some (0, 5, []) ∧ SC[b + 2]? = some (0, 5, []) ∧ SC[b + 3]? = some (0, 15, []) ∧ SC[b + 4]? = some (0, 15, []) ∧ SC[b + 5]? = some (0, 15, []) ∧ SC[b + 6]? = some (1, 15, [])
theorem gr0 {g : Nat} (h : Grp g) : SC[g]? = some (0 + 2, 0, [5 + 2, (g + 1) + 2, 0, 0]) := h.1
theorem gr1 {g : Nat} (h : Grp g) : SC[g + 1]? = some (0, 5, []) := h.2.1
theorem gr2 {g : Nat} (h : Grp g) : SC[g + 2]? = some (5 + 2, 0, [g + 2, 5 + 2, (g + 3) + 2, (g + 4) + 2, (g + 5) + 2, 0, (g + 6) + 2, 0, 0]) := h.2.2.1
theorem gr3 {g : Nat} (h : Grp g) : SC[g + 3]? = some (0, 600, []) := h.2.2.2.1
theorem gr4 {g : Nat} (h : Grp g) : SC[g + 4]? = some (1, 600, []) := h.2.2.2.2.1
theorem gr5 {g : Nat} (h : Grp g) : SC[g + 5]? = some (0, 600, []) := h.2.2.2.2.2.1
theorem gr6 {g : Nat} (h : Grp g) : SC[g + 6]? = some (0, 600, []) := h.2.2.2.2.2.2.1
theorem gr7 {g : Nat} (h : Grp g) : SC[g + 7]? = some (1 + 2, 0, [(g + 2) + 2, g + 2, 5 + 2, (g + 8) + 2, (g + 9) + 2, 0, 0, 0, 0, 1]) := h.2.2.2.2.2.2.2.1
theorem gr8 {g : Nat} (h : Grp g) : SC[g + 8]? = some (0, 6, []) := h.2.2.2.2.2.2.2.2.1
theorem gr9 {g : Nat} (h : Grp g) : SC[g + 9]? = some (0, 6, []) := h.2.2.2.2.2.2.2.2.2
theorem pp0 {b : Nat} (h : Ppl b) : SC[b]? = some (4 + 2, 0, [0, 0, 0, (b + 1) + 2, (b + 2) + 2, (b + 3) + 2, (b + 4) + 2, (b + 5) + 2, (b + 6) + 2]) := h.1
theorem pp1 {b : Nat} (h : Ppl b) : SC[b + 1]? = some (0, 5, []) := h.2.1
theorem pp2 {b : Nat} (h : Ppl b) : SC[b + 2]? = some (0, 5, []) := h.2.2.1
theorem pp3 {b : Nat} (h : Ppl b) : SC[b + 3]? = some (0, 15, []) := h.2.2.2.1
theorem pp4 {b : Nat} (h : Ppl b) : SC[b + 4]? = some (0, 15, []) := h.2.2.2.2.1
theorem pp5 {b : Nat} (h : Ppl b) : SC[b + 5]? = some (0, 15, []) := h.2.2.2.2.2.1
theorem pp6 {b : Nat} (h : Ppl b) : SC[b + 6]? = some (1, 15, []) := h.2.2.2.2.2.2
theorem grp20 : Grp 20 := ⟨rfl, rfl, rfl, rfl, rfl, rfl, rfl, rfl, rfl, rfl⟩
theorem grp30 : Grp 30 := ⟨rfl, rfl, rfl, rfl, rfl, rfl, rfl, rfl, rfl, rfl⟩
theorem ppl5 : Ppl 5 := ⟨rfl, rfl, rfl, rfl, rfl, rfl, rfl⟩
theorem ppl12 : Ppl 12 := ⟨rfl, rfl, rfl, rfl, rfl, rfl, rfl⟩
def wloop {P ρ : Type} (body : (P → Option ρ) → P → Option ρ) : Nat → P → Option ρ
  | 0, _ => none
  | n + 1, p => body (wloop body n) p
theorem wloop_run {P ρ : Type} {body : (P → Option ρ) → P → Option ρ} {Q : P → ρ → Prop} (hb : ∀ k : P → Option ρ, (∀ p r, k p = some r → Q p r) → ∀ p r, body k p = some r → Q p r) : ∀ (n : Nat) (p : P) (r : ρ), wloop body n p = some r → Q p r := by
  intro n
  induction n with
  | zero => intro p r h; cases h
  | succ n ih => intro p r h; exact hb _ ih p r h
theorem fuel_ex : ∃ n : Nat, 1000000 ≤ n := ⟨1000000, Nat.le_refl _⟩
noncomputable def fuelN : Nat := Classical.choose fuel_ex
theorem fuelN_ge : 1000000 ≤ fuelN := Classical.choose_spec fuel_ex
def bd {α β : Type} (o : Option α) (f : α → Option β) : Option β := match o with
  | none => none
  | some y => f y
theorem bd_some {α β : Type} {o : Option α} {f : α → Option β} {x : β} (h : bd o f = some x) : ∃ y, o = some y ∧ f y = some x := by
  cases o with
  | none => cases h
  | some y => exact ⟨y, rfl, h⟩
theorem gn_some {c : Prop} [Decidable c] {α : Type} {o : Option α} {x : α} (h : (if c then none else o) = some x) : ¬ c ∧ o = some x := by
  by_cases hc : c
  · rw [if_pos hc] at h; cases h
  · rw [if_neg hc] at h; exact ⟨hc, h⟩
theorem gp_some {c : Prop} [Decidable c] {α : Type} {o : Option α} {x : α} (h : (if c then o else none) = some x) : c ∧ o = some x := by
  by_cases hc : c
  · rw [if_pos hc] at h; exact ⟨hc, h⟩
  · rw [if_neg hc] at h; cases h
theorem ite_t {c : Prop} [Decidable c] {α : Type} {a b x : α} (hc : c) (h : (if c then a else b) = x) : a = x := by rw [if_pos hc] at h; exact h
theorem ite_f {c : Prop} [Decidable c] {α : Type} {a b x : α} (hc : ¬ c) (h : (if c then a else b) = x) : b = x := by rw [if_neg hc] at h; exact h
theorem hrI {x : Int32} {σ : HS} {r : Int32 × HS} (h : (x, σ) = r) : ((some (Value.int r.1), r.2) : Option Value × HS) = (some (.int x), σ) := by rw [← h]
theorem hrL {x : Int64} {σ : HS} {r : Int64 × HS} (h : (x, σ) = r) : ((some (Value.long r.1), r.2) : Option Value × HS) = (some (.long x), σ) := by rw [← h]
theorem hrV {σ r : HS} (h : σ = r) : ((none, r) : Option Value × HS) = (none, σ) := by rw [h]
theorem lgc_lt {x y : Int64} (h : x < y) : lg_cmp x y = -1 := by
  have h2 : ¬ y < x := lg_lt_not h
  have h3 : ¬ x = y := fun e => by subst e; exact h2 h
  simp [lg_cmp, h2, h3]
theorem lgc_gt {x y : Int64} (h : y < x) : lg_cmp x y = 1 := by simp [lg_cmp, h]
theorem lgc_eq (x : Int64) : lg_cmp x x = 0 := by
  have h : ¬ x < x := fun h => lg_lt_not h h
  simp [lg_cmp, h]
theorem lgc_three (x y : Int64) : x < y ∨ x = y ∨ y < x := by
  simp only [Int64.lt_iff_toInt_lt, ← Int64.toInt_inj]; omega
theorem lg_lt {x y : Int64} : lg_cmp x y < 0 ↔ x < y := by
  rcases lgc_three x y with h | rfl | h
  · rw [lgc_lt h]; simp [h]
  · rw [lgc_eq]; simp only [show ¬ ((0 : Int32) < 0) by decide, false_iff]; exact fun h => lg_lt_not h h
  · rw [lgc_gt h]; simp only [show ¬ ((1 : Int32) < 0) by decide, false_iff]; exact lg_lt_not h
theorem lg_gt {x y : Int64} : 0 < lg_cmp x y ↔ y < x := by
  rcases lgc_three x y with h | rfl | h
  · rw [lgc_lt h]; simp only [show ¬ ((0 : Int32) < -1) by decide, false_iff]; exact lg_lt_not h
  · rw [lgc_eq]; simp only [show ¬ ((0 : Int32) < 0) by decide, false_iff]; exact fun h => lg_lt_not h h
  · rw [lgc_gt h]; simp [h]
theorem lg_eq {x y : Int64} : lg_cmp x y = 0 ↔ x = y := by
  rcases lgc_three x y with h | rfl | h
  · rw [lgc_lt h]; simp only [show ¬ ((-1 : Int32) = 0) by decide, false_iff]; intro e; subst e; exact lg_lt_not h h
  · rw [lgc_eq]; simp
  · rw [lgc_gt h]; simp only [show ¬ ((1 : Int32) = 0) by decide, false_iff]; intro e; subst e; exact lg_lt_not h h
theorem lg_lt_n {x y : Int64} : ¬ lg_cmp x y < 0 ↔ ¬ x < y := not_congr lg_lt
theorem lg_gt_n {x y : Int64} : ¬ 0 < lg_cmp x y ↔ ¬ y < x := not_congr lg_gt
theorem lg_eq_n {x y : Int64} : ¬ lg_cmp x y = 0 ↔ ¬ x = y := not_congr lg_eq
theorem lg_ge {x y : Int64} : 0 ≤ lg_cmp x y ↔ ¬ x < y := by rw [← lg_lt]; exact (Int32.not_lt (a := lg_cmp x y) (b := 0)).symm
theorem lg_ge_n {x y : Int64} : ¬ 0 ≤ lg_cmp x y ↔ x < y := by rw [lg_ge]; exact Classical.not_not
theorem lg_le {x y : Int64} : lg_cmp x y ≤ 0 ↔ ¬ y < x := by rw [← lg_gt]; exact (Int32.not_lt (a := 0) (b := lg_cmp x y)).symm
theorem lg_le_n {x y : Int64} : ¬ lg_cmp x y ≤ 0 ↔ y < x := by rw [lg_le]; exact Classical.not_not
theorem lg_ne {x y : Int64} : ¬ lg_cmp x y = 0 ↔ ¬ x = y := lg_eq_n
theorem lg_ne_n {x y : Int64} : lg_cmp x y = 0 ↔ x = y := lg_eq
theorem i32_ne {x : Int32} {k : Int} (h : ¬ x = Int32.ofInt k) (h1 : -2147483648 ≤ k) (h2 : k < 2147483648) : x.toInt ≠ k := by
  intro e; apply h; apply Int32.toInt_inj.mp; rw [Int32.toInt_ofInt_of_le h1 h2]; exact e
theorem tsw2 {x : Int32} (h0 : ¬ x = 0) (h1 : ¬ x = 1) : x.toInt < 0 ∨ 1 < x.toInt := by
  have a0 : x.toInt ≠ 0 := i32_ne (k := 0) (fun e => h0 (e.trans (by decide))) (by decide) (by decide)
  have a1 : x.toInt ≠ 1 := i32_ne (k := 1) (fun e => h1 (e.trans (by decide))) (by decide) (by decide)
  omega
theorem tsw3 {x : Int32} (h0 : ¬ x = 0) (h1 : ¬ x = 1) (h2 : ¬ x = 2) : x.toInt < 0 ∨ 2 < x.toInt := by
  have a0 : x.toInt ≠ 0 := i32_ne (k := 0) (fun e => h0 (e.trans (by decide))) (by decide) (by decide)
  have a1 : x.toInt ≠ 1 := i32_ne (k := 1) (fun e => h1 (e.trans (by decide))) (by decide) (by decide)
  have a2 : x.toInt ≠ 2 := i32_ne (k := 2) (fun e => h2 (e.trans (by decide))) (by decide) (by decide)
  omega
theorem tsw6 {x : Int32} (h0 : ¬ x = 0) (h1 : ¬ x = 1) (h2 : ¬ x = 2) (h3 : ¬ x = 3) (h4 : ¬ x = 4) (h5 : ¬ x = 5) : x.toInt < 0 ∨ 5 < x.toInt := by
  have a0 : x.toInt ≠ 0 := i32_ne (k := 0) (fun e => h0 (e.trans (by decide))) (by decide) (by decide)
  have a1 : x.toInt ≠ 1 := i32_ne (k := 1) (fun e => h1 (e.trans (by decide))) (by decide) (by decide)
  have a2 : x.toInt ≠ 2 := i32_ne (k := 2) (fun e => h2 (e.trans (by decide))) (by decide) (by decide)
  have a3 : x.toInt ≠ 3 := i32_ne (k := 3) (fun e => h3 (e.trans (by decide))) (by decide) (by decide)
  have a4 : x.toInt ≠ 4 := i32_ne (k := 4) (fun e => h4 (e.trans (by decide))) (by decide) (by decide)
  have a5 : x.toInt ≠ 5 := i32_ne (k := 5) (fun e => h5 (e.trans (by decide))) (by decide) (by decide)
  omega
theorem pd_X0_beginAnew : yX0_beginAnew.cls ≠ "java/lang/invoke/MethodHandle" ∧ yX0_beginAnew.cls ≠ "java/lang/invoke/VarHandle" ∧ (parseMethodDescriptor yX0_beginAnew.desc).map (fun d => d.parameters.length) = some 0 := by decide +kernel
theorem pn_X0_beginAnew : plainName yX0_beginAnew.cls = true := by decide +kernel
def rm0_beginAnew : Room := { frames := 2, cells := 0, slots := 0, locals := 43 }
theorem pd_X0_takeFirstOrder : yX0_takeFirstOrder.cls ≠ "java/lang/invoke/MethodHandle" ∧ yX0_takeFirstOrder.cls ≠ "java/lang/invoke/VarHandle" ∧ (parseMethodDescriptor yX0_takeFirstOrder.desc).map (fun d => d.parameters.length) = some 0 := by decide +kernel
theorem pn_X0_takeFirstOrder : plainName yX0_takeFirstOrder.cls = true := by decide +kernel
def rm0_takeFirstOrder : Room := { frames := 1, cells := 0, slots := 0, locals := 22 }
theorem pd_X0_follow : yX0_follow.cls ≠ "java/lang/invoke/MethodHandle" ∧ yX0_follow.cls ≠ "java/lang/invoke/VarHandle" ∧ (parseMethodDescriptor yX0_follow.desc).map (fun d => d.parameters.length) = some 1 := by decide +kernel
theorem pn_X0_follow : plainName yX0_follow.cls = true := by decide +kernel
def rm0_follow : Room := { frames := 2, cells := 0, slots := 0, locals := 42 }
theorem pd_X0_turns : yX0_turns.cls ≠ "java/lang/invoke/MethodHandle" ∧ yX0_turns.cls ≠ "java/lang/invoke/VarHandle" ∧ (parseMethodDescriptor yX0_turns.desc).map (fun d => d.parameters.length) = some 0 := by decide +kernel
theorem pn_X0_turns : plainName yX0_turns.cls = true := by decide +kernel
def rm0_turns : Room := { frames := 0, cells := 0, slots := 0, locals := 0 }
theorem pd_X0_hasTurn : yX0_hasTurn.cls ≠ "java/lang/invoke/MethodHandle" ∧ yX0_hasTurn.cls ≠ "java/lang/invoke/VarHandle" ∧ (parseMethodDescriptor yX0_hasTurn.desc).map (fun d => d.parameters.length) = some 1 := by decide +kernel
theorem pn_X0_hasTurn : plainName yX0_hasTurn.cls = true := by decide +kernel
def rm0_hasTurn : Room := { frames := 1, cells := 0, slots := 0, locals := 20 }
theorem pd_X0_whoAt : yX0_whoAt.cls ≠ "java/lang/invoke/MethodHandle" ∧ yX0_whoAt.cls ≠ "java/lang/invoke/VarHandle" ∧ (parseMethodDescriptor yX0_whoAt.desc).map (fun d => d.parameters.length) = some 1 := by decide +kernel
theorem pn_X0_whoAt : plainName yX0_whoAt.cls = true := by decide +kernel
def rm0_whoAt : Room := { frames := 1, cells := 0, slots := 0, locals := 21 }
theorem pd_X0_whoIn : yX0_whoIn.cls ≠ "java/lang/invoke/MethodHandle" ∧ yX0_whoIn.cls ≠ "java/lang/invoke/VarHandle" ∧ (parseMethodDescriptor yX0_whoIn.desc).map (fun d => d.parameters.length) = some 1 := by decide +kernel
theorem pn_X0_whoIn : plainName yX0_whoIn.cls = true := by decide +kernel
def rm0_whoIn : Room := { frames := 1, cells := 0, slots := 0, locals := 21 }
theorem pd_X0_placeOf : yX0_placeOf.cls ≠ "java/lang/invoke/MethodHandle" ∧ yX0_placeOf.cls ≠ "java/lang/invoke/VarHandle" ∧ (parseMethodDescriptor yX0_placeOf.desc).map (fun d => d.parameters.length) = some 1 := by decide +kernel
theorem pn_X0_placeOf : plainName yX0_placeOf.cls = true := by decide +kernel
def rm0_placeOf : Room := { frames := 2, cells := 0, slots := 0, locals := 42 }
theorem pd_X0_exchange : yX0_exchange.cls ≠ "java/lang/invoke/MethodHandle" ∧ yX0_exchange.cls ≠ "java/lang/invoke/VarHandle" ∧ (parseMethodDescriptor yX0_exchange.desc).map (fun d => d.parameters.length) = some 2 := by decide +kernel
theorem pn_X0_exchange : plainName yX0_exchange.cls = true := by decide +kernel
def rm0_exchange : Room := { frames := 2, cells := 0, slots := 0, locals := 42 }
theorem pd_X0_firstWater : yX0_firstWater.cls ≠ "java/lang/invoke/MethodHandle" ∧ yX0_firstWater.cls ≠ "java/lang/invoke/VarHandle" ∧ (parseMethodDescriptor yX0_firstWater.desc).map (fun d => d.parameters.length) = some 0 := by decide +kernel
theorem pn_X0_firstWater : plainName yX0_firstWater.cls = true := by decide +kernel
def rm0_firstWater : Room := { frames := 0, cells := 0, slots := 0, locals := 0 }
theorem pd_X0_waterBehind : yX0_waterBehind.cls ≠ "java/lang/invoke/MethodHandle" ∧ yX0_waterBehind.cls ≠ "java/lang/invoke/VarHandle" ∧ (parseMethodDescriptor yX0_waterBehind.desc).map (fun d => d.parameters.length) = some 1 := by decide +kernel
theorem pn_X0_waterBehind : plainName yX0_waterBehind.cls = true := by decide +kernel
def rm0_waterBehind : Room := { frames := 1, cells := 0, slots := 0, locals := 20 }
theorem pd_X0_takeNextOrder : yX0_takeNextOrder.cls ≠ "java/lang/invoke/MethodHandle" ∧ yX0_takeNextOrder.cls ≠ "java/lang/invoke/VarHandle" ∧ (parseMethodDescriptor yX0_takeNextOrder.desc).map (fun d => d.parameters.length) = some 0 := by decide +kernel
theorem pn_X0_takeNextOrder : plainName yX0_takeNextOrder.cls = true := by decide +kernel
def rm0_takeNextOrder : Room := { frames := 3, cells := 0, slots := 0, locals := 65 }
theorem pd_X0_changesFrom : yX0_changesFrom.cls ≠ "java/lang/invoke/MethodHandle" ∧ yX0_changesFrom.cls ≠ "java/lang/invoke/VarHandle" ∧ (parseMethodDescriptor yX0_changesFrom.desc).map (fun d => d.parameters.length) = some 1 := by decide +kernel
theorem pn_X0_changesFrom : plainName yX0_changesFrom.cls = true := by decide +kernel
def rm0_changesFrom : Room := { frames := 2, cells := 0, slots := 0, locals := 42 }
theorem pd_X1_begin : yX1_begin.cls ≠ "java/lang/invoke/MethodHandle" ∧ yX1_begin.cls ≠ "java/lang/invoke/VarHandle" ∧ (parseMethodDescriptor yX1_begin.desc).map (fun d => d.parameters.length) = some 0 := by decide +kernel
theorem pn_X1_begin : plainName yX1_begin.cls = true := by decide +kernel
def rm1_begin : Room := { frames := 1, cells := 0, slots := 0, locals := 20 }
theorem pd_X1_speak : yX1_speak.cls ≠ "java/lang/invoke/MethodHandle" ∧ yX1_speak.cls ≠ "java/lang/invoke/VarHandle" ∧ (parseMethodDescriptor yX1_speak.desc).map (fun d => d.parameters.length) = some 1 := by decide +kernel
theorem pn_X1_speak : plainName yX1_speak.cls = true := by decide +kernel
def rm1_speak : Room := { frames := 2, cells := 0, slots := 0, locals := 43 }
theorem pd_X1_goFreely : yX1_goFreely.cls ≠ "java/lang/invoke/MethodHandle" ∧ yX1_goFreely.cls ≠ "java/lang/invoke/VarHandle" ∧ (parseMethodDescriptor yX1_goFreely.desc).map (fun d => d.parameters.length) = some 0 := by decide +kernel
theorem pn_X1_goFreely : plainName yX1_goFreely.cls = true := by decide +kernel
def rm1_goFreely : Room := { frames := 4, cells := 0, slots := 0, locals := 89 }
theorem pd_X1_goForced : yX1_goForced.cls ≠ "java/lang/invoke/MethodHandle" ∧ yX1_goForced.cls ≠ "java/lang/invoke/VarHandle" ∧ (parseMethodDescriptor yX1_goForced.desc).map (fun d => d.parameters.length) = some 2 := by decide +kernel
theorem pn_X1_goForced : plainName yX1_goForced.cls = true := by decide +kernel
def rm1_goForced : Room := { frames := 3, cells := 0, slots := 0, locals := 66 }
theorem pd_X1_saidIn : yX1_saidIn.cls ≠ "java/lang/invoke/MethodHandle" ∧ yX1_saidIn.cls ≠ "java/lang/invoke/VarHandle" ∧ (parseMethodDescriptor yX1_saidIn.desc).map (fun d => d.parameters.length) = some 1 := by decide +kernel
theorem pn_X1_saidIn : plainName yX1_saidIn.cls = true := by decide +kernel
def rm1_saidIn : Room := { frames := 1, cells := 0, slots := 0, locals := 21 }
theorem pd_X1_waterIn : yX1_waterIn.cls ≠ "java/lang/invoke/MethodHandle" ∧ yX1_waterIn.cls ≠ "java/lang/invoke/VarHandle" ∧ (parseMethodDescriptor yX1_waterIn.desc).map (fun d => d.parameters.length) = some 1 := by decide +kernel
theorem pn_X1_waterIn : plainName yX1_waterIn.cls = true := by decide +kernel
def rm1_waterIn : Room := { frames := 1, cells := 0, slots := 0, locals := 21 }
theorem pd_X1_hasSaid : yX1_hasSaid.cls ≠ "java/lang/invoke/MethodHandle" ∧ yX1_hasSaid.cls ≠ "java/lang/invoke/VarHandle" ∧ (parseMethodDescriptor yX1_hasSaid.desc).map (fun d => d.parameters.length) = some 2 := by decide +kernel
theorem pn_X1_hasSaid : plainName yX1_hasSaid.cls = true := by decide +kernel
def rm1_hasSaid : Room := { frames := 2, cells := 0, slots := 0, locals := 42 }
theorem pd_X1_runAwayBy : yX1_runAwayBy.cls ≠ "java/lang/invoke/MethodHandle" ∧ yX1_runAwayBy.cls ≠ "java/lang/invoke/VarHandle" ∧ (parseMethodDescriptor yX1_runAwayBy.desc).map (fun d => d.parameters.length) = some 1 := by decide +kernel
theorem pn_X1_runAwayBy : plainName yX1_runAwayBy.cls = true := by decide +kernel
def rm1_runAwayBy : Room := { frames := 2, cells := 0, slots := 0, locals := 43 }
theorem pd_X2_clear : yX2_clear.cls ≠ "java/lang/invoke/MethodHandle" ∧ yX2_clear.cls ≠ "java/lang/invoke/VarHandle" ∧ (parseMethodDescriptor yX2_clear.desc).map (fun d => d.parameters.length) = some 0 := by decide +kernel
theorem pn_X2_clear : plainName yX2_clear.cls = true := by decide +kernel
def rm2_clear : Room := { frames := 0, cells := 0, slots := 0, locals := 0 }
theorem pd_X2_note : yX2_note.cls ≠ "java/lang/invoke/MethodHandle" ∧ yX2_note.cls ≠ "java/lang/invoke/VarHandle" ∧ (parseMethodDescriptor yX2_note.desc).map (fun d => d.parameters.length) = some 2 := by decide +kernel
theorem pn_X2_note : plainName yX2_note.cls = true := by decide +kernel
def rm2_note : Room := { frames := 1, cells := 0, slots := 0, locals := 22 }
theorem pd_X2_close : yX2_close.cls ≠ "java/lang/invoke/MethodHandle" ∧ yX2_close.cls ≠ "java/lang/invoke/VarHandle" ∧ (parseMethodDescriptor yX2_close.desc).map (fun d => d.parameters.length) = some 1 := by decide +kernel
theorem pn_X2_close : plainName yX2_close.cls = true := by decide +kernel
def rm2_close : Room := { frames := 1, cells := 0, slots := 0, locals := 22 }
theorem pd_X2_compare : yX2_compare.cls ≠ "java/lang/invoke/MethodHandle" ∧ yX2_compare.cls ≠ "java/lang/invoke/VarHandle" ∧ (parseMethodDescriptor yX2_compare.desc).map (fun d => d.parameters.length) = some 2 := by decide +kernel
theorem pn_X2_compare : plainName yX2_compare.cls = true := by decide +kernel
def rm2_compare : Room := { frames := 4, cells := 0, slots := 0, locals := 89 }
theorem pd_X2_goBy : yX2_goBy.cls ≠ "java/lang/invoke/MethodHandle" ∧ yX2_goBy.cls ≠ "java/lang/invoke/VarHandle" ∧ (parseMethodDescriptor yX2_goBy.desc).map (fun d => d.parameters.length) = some 2 := by decide +kernel
theorem pn_X2_goBy : plainName yX2_goBy.cls = true := by decide +kernel
def rm2_goBy : Room := { frames := 3, cells := 0, slots := 0, locals := 66 }
theorem pd_X2_fits : yX2_fits.cls ≠ "java/lang/invoke/MethodHandle" ∧ yX2_fits.cls ≠ "java/lang/invoke/VarHandle" ∧ (parseMethodDescriptor yX2_fits.desc).map (fun d => d.parameters.length) = some 2 := by decide +kernel
theorem pn_X2_fits : plainName yX2_fits.cls = true := by decide +kernel
def rm2_fits : Room := { frames := 1, cells := 0, slots := 0, locals := 21 }
theorem pd_X3_forget : yX3_forget.cls ≠ "java/lang/invoke/MethodHandle" ∧ yX3_forget.cls ≠ "java/lang/invoke/VarHandle" ∧ (parseMethodDescriptor yX3_forget.desc).map (fun d => d.parameters.length) = some 0 := by decide +kernel
theorem pn_X3_forget : plainName yX3_forget.cls = true := by decide +kernel
def rm3_forget : Room := { frames := 0, cells := 0, slots := 0, locals := 0 }
theorem pd_X3_seek : yX3_seek.cls ≠ "java/lang/invoke/MethodHandle" ∧ yX3_seek.cls ≠ "java/lang/invoke/VarHandle" ∧ (parseMethodDescriptor yX3_seek.desc).map (fun d => d.parameters.length) = some 0 := by decide +kernel
theorem pn_X3_seek : plainName yX3_seek.cls = true := by decide +kernel
def rm3_seek : Room := { frames := 5, cells := 0, slots := 0, locals := 125 }
theorem pd_X3_noteWords : yX3_noteWords.cls ≠ "java/lang/invoke/MethodHandle" ∧ yX3_noteWords.cls ≠ "java/lang/invoke/VarHandle" ∧ (parseMethodDescriptor yX3_noteWords.desc).map (fun d => d.parameters.length) = some 2 := by decide +kernel
theorem pn_X3_noteWords : plainName yX3_noteWords.cls = true := by decide +kernel
def rm3_noteWords : Room := { frames := 2, cells := 0, slots := 0, locals := 42 }
theorem pd_X3_packedOrder : yX3_packedOrder.cls ≠ "java/lang/invoke/MethodHandle" ∧ yX3_packedOrder.cls ≠ "java/lang/invoke/VarHandle" ∧ (parseMethodDescriptor yX3_packedOrder.desc).map (fun d => d.parameters.length) = some 0 := by decide +kernel
theorem pn_X3_packedOrder : plainName yX3_packedOrder.cls = true := by decide +kernel
def rm3_packedOrder : Room := { frames := 2, cells := 0, slots := 0, locals := 42 }
theorem pd_X3_isFound : yX3_isFound.cls ≠ "java/lang/invoke/MethodHandle" ∧ yX3_isFound.cls ≠ "java/lang/invoke/VarHandle" ∧ (parseMethodDescriptor yX3_isFound.desc).map (fun d => d.parameters.length) = some 2 := by decide +kernel
theorem pn_X3_isFound : plainName yX3_isFound.cls = true := by decide +kernel
def rm3_isFound : Room := { frames := 2, cells := 0, slots := 0, locals := 43 }
theorem pd_X3_changesFor : yX3_changesFor.cls ≠ "java/lang/invoke/MethodHandle" ∧ yX3_changesFor.cls ≠ "java/lang/invoke/VarHandle" ∧ (parseMethodDescriptor yX3_changesFor.desc).map (fun d => d.parameters.length) = some 2 := by decide +kernel
theorem pn_X3_changesFor : plainName yX3_changesFor.cls = true := by decide +kernel
def rm3_changesFor : Room := { frames := 1, cells := 0, slots := 0, locals := 21 }
theorem pd_X3_whoFor : yX3_whoFor.cls ≠ "java/lang/invoke/MethodHandle" ∧ yX3_whoFor.cls ≠ "java/lang/invoke/VarHandle" ∧ (parseMethodDescriptor yX3_whoFor.desc).map (fun d => d.parameters.length) = some 3 := by decide +kernel
theorem pn_X3_whoFor : plainName yX3_whoFor.cls = true := by decide +kernel
def rm3_whoFor : Room := { frames := 1, cells := 0, slots := 0, locals := 21 }
theorem pd_X4_begin : yX4_begin.cls ≠ "java/lang/invoke/MethodHandle" ∧ yX4_begin.cls ≠ "java/lang/invoke/VarHandle" ∧ (parseMethodDescriptor yX4_begin.desc).map (fun d => d.parameters.length) = some 2 := by decide +kernel
theorem pn_X4_begin : plainName yX4_begin.cls = true := by decide +kernel
def rm4_begin : Room := { frames := 0, cells := 0, slots := 0, locals := 0 }
theorem pd_X4_addSpeaker : yX4_addSpeaker.cls ≠ "java/lang/invoke/MethodHandle" ∧ yX4_addSpeaker.cls ≠ "java/lang/invoke/VarHandle" ∧ (parseMethodDescriptor yX4_addSpeaker.desc).map (fun d => d.parameters.length) = some 1 := by decide +kernel
theorem pn_X4_addSpeaker : plainName yX4_addSpeaker.cls = true := by decide +kernel
def rm4_addSpeaker : Room := { frames := 1, cells := 0, slots := 0, locals := 22 }
theorem pd_X4_addWord : yX4_addWord.cls ≠ "java/lang/invoke/MethodHandle" ∧ yX4_addWord.cls ≠ "java/lang/invoke/VarHandle" ∧ (parseMethodDescriptor yX4_addWord.desc).map (fun d => d.parameters.length) = some 3 := by decide +kernel
theorem pn_X4_addWord : plainName yX4_addWord.cls = true := by decide +kernel
def rm4_addWord : Room := { frames := 2, cells := 0, slots := 0, locals := 42 }
theorem pd_X4_become : yX4_become.cls ≠ "java/lang/invoke/MethodHandle" ∧ yX4_become.cls ≠ "java/lang/invoke/VarHandle" ∧ (parseMethodDescriptor yX4_become.desc).map (fun d => d.parameters.length) = some 1 := by decide +kernel
theorem pn_X4_become : plainName yX4_become.cls = true := by decide +kernel
def rm4_become : Room := { frames := 3, cells := 0, slots := 0, locals := 68 }
theorem pd_X4_gainOf : yX4_gainOf.cls ≠ "java/lang/invoke/MethodHandle" ∧ yX4_gainOf.cls ≠ "java/lang/invoke/VarHandle" ∧ (parseMethodDescriptor yX4_gainOf.desc).map (fun d => d.parameters.length) = some 2 := by decide +kernel
theorem pn_X4_gainOf : plainName yX4_gainOf.cls = true := by decide +kernel
def rm4_gainOf : Room := { frames := 1, cells := 0, slots := 0, locals := 21 }
theorem pd_X4_has : yX4_has.cls ≠ "java/lang/invoke/MethodHandle" ∧ yX4_has.cls ≠ "java/lang/invoke/VarHandle" ∧ (parseMethodDescriptor yX4_has.desc).map (fun d => d.parameters.length) = some 1 := by decide +kernel
theorem pn_X4_has : plainName yX4_has.cls = true := by decide +kernel
def rm4_has : Room := { frames := 0, cells := 0, slots := 0, locals := 0 }
theorem pd_X4_hasWord : yX4_hasWord.cls ≠ "java/lang/invoke/MethodHandle" ∧ yX4_hasWord.cls ≠ "java/lang/invoke/VarHandle" ∧ (parseMethodDescriptor yX4_hasWord.desc).map (fun d => d.parameters.length) = some 2 := by decide +kernel
theorem pn_X4_hasWord : plainName yX4_hasWord.cls = true := by decide +kernel
def rm4_hasWord : Room := { frames := 2, cells := 0, slots := 0, locals := 42 }
theorem pd_X4_placeOfWord : yX4_placeOfWord.cls ≠ "java/lang/invoke/MethodHandle" ∧ yX4_placeOfWord.cls ≠ "java/lang/invoke/VarHandle" ∧ (parseMethodDescriptor yX4_placeOfWord.desc).map (fun d => d.parameters.length) = some 2 := by decide +kernel
theorem pn_X4_placeOfWord : plainName yX4_placeOfWord.cls = true := by decide +kernel
def rm4_placeOfWord : Room := { frames := 0, cells := 0, slots := 0, locals := 0 }
theorem pd_X4_kindOf : yX4_kindOf.cls ≠ "java/lang/invoke/MethodHandle" ∧ yX4_kindOf.cls ≠ "java/lang/invoke/VarHandle" ∧ (parseMethodDescriptor yX4_kindOf.desc).map (fun d => d.parameters.length) = some 1 := by decide +kernel
theorem pn_X4_kindOf : plainName yX4_kindOf.cls = true := by decide +kernel
def rm4_kindOf : Room := { frames := 1, cells := 0, slots := 0, locals := 21 }
theorem pd_X4_wordsOf : yX4_wordsOf.cls ≠ "java/lang/invoke/MethodHandle" ∧ yX4_wordsOf.cls ≠ "java/lang/invoke/VarHandle" ∧ (parseMethodDescriptor yX4_wordsOf.desc).map (fun d => d.parameters.length) = some 1 := by decide +kernel
theorem pn_X4_wordsOf : plainName yX4_wordsOf.cls = true := by decide +kernel
def rm4_wordsOf : Room := { frames := 1, cells := 0, slots := 0, locals := 21 }
theorem pd_X4_lengthOf : yX4_lengthOf.cls ≠ "java/lang/invoke/MethodHandle" ∧ yX4_lengthOf.cls ≠ "java/lang/invoke/VarHandle" ∧ (parseMethodDescriptor yX4_lengthOf.desc).map (fun d => d.parameters.length) = some 2 := by decide +kernel
theorem pn_X4_lengthOf : plainName yX4_lengthOf.cls = true := by decide +kernel
def rm4_lengthOf : Room := { frames := 1, cells := 0, slots := 0, locals := 21 }
theorem pd_X4_ownOf : yX4_ownOf.cls ≠ "java/lang/invoke/MethodHandle" ∧ yX4_ownOf.cls ≠ "java/lang/invoke/VarHandle" ∧ (parseMethodDescriptor yX4_ownOf.desc).map (fun d => d.parameters.length) = some 2 := by decide +kernel
theorem pn_X4_ownOf : plainName yX4_ownOf.cls = true := by decide +kernel
def rm4_ownOf : Room := { frames := 1, cells := 0, slots := 0, locals := 21 }
theorem pd_X4_othersOf : yX4_othersOf.cls ≠ "java/lang/invoke/MethodHandle" ∧ yX4_othersOf.cls ≠ "java/lang/invoke/VarHandle" ∧ (parseMethodDescriptor yX4_othersOf.desc).map (fun d => d.parameters.length) = some 2 := by decide +kernel
theorem pn_X4_othersOf : plainName yX4_othersOf.cls = true := by decide +kernel
def rm4_othersOf : Room := { frames := 1, cells := 0, slots := 0, locals := 21 }
theorem pd_X4_gainBy : yX4_gainBy.cls ≠ "java/lang/invoke/MethodHandle" ∧ yX4_gainBy.cls ≠ "java/lang/invoke/VarHandle" ∧ (parseMethodDescriptor yX4_gainBy.desc).map (fun d => d.parameters.length) = some 2 := by decide +kernel
theorem pn_X4_gainBy : plainName yX4_gainBy.cls = true := by decide +kernel
def rm4_gainBy : Room := { frames := 1, cells := 0, slots := 0, locals := 21 }
theorem pd_X4_longestWithin : yX4_longestWithin.cls ≠ "java/lang/invoke/MethodHandle" ∧ yX4_longestWithin.cls ≠ "java/lang/invoke/VarHandle" ∧ (parseMethodDescriptor yX4_longestWithin.desc).map (fun d => d.parameters.length) = some 2 := by decide +kernel
theorem pn_X4_longestWithin : plainName yX4_longestWithin.cls = true := by decide +kernel
def rm4_longestWithin : Room := { frames := 2, cells := 0, slots := 0, locals := 43 }
theorem pd_X5_makeForEach : yX5_makeForEach.cls ≠ "java/lang/invoke/MethodHandle" ∧ yX5_makeForEach.cls ≠ "java/lang/invoke/VarHandle" ∧ (parseMethodDescriptor yX5_makeForEach.desc).map (fun d => d.parameters.length) = some 0 := by decide +kernel
theorem pn_X5_makeForEach : plainName yX5_makeForEach.cls = true := by decide +kernel
def rm5_makeForEach : Room := { frames := 4, cells := 0, slots := 0, locals := 105 }
theorem pd_X5_makeForFreeDay : yX5_makeForFreeDay.cls ≠ "java/lang/invoke/MethodHandle" ∧ yX5_makeForFreeDay.cls ≠ "java/lang/invoke/VarHandle" ∧ (parseMethodDescriptor yX5_makeForFreeDay.desc).map (fun d => d.parameters.length) = some 0 := by decide +kernel
theorem pn_X5_makeForFreeDay : plainName yX5_makeForFreeDay.cls = true := by decide +kernel
def rm5_makeForFreeDay : Room := { frames := 4, cells := 0, slots := 0, locals := 105 }
theorem pd_X5_makeForAll : yX5_makeForAll.cls ≠ "java/lang/invoke/MethodHandle" ∧ yX5_makeForAll.cls ≠ "java/lang/invoke/VarHandle" ∧ (parseMethodDescriptor yX5_makeForAll.desc).map (fun d => d.parameters.length) = some 0 := by decide +kernel
theorem pn_X5_makeForAll : plainName yX5_makeForAll.cls = true := by decide +kernel
def rm5_makeForAll : Room := { frames := 4, cells := 0, slots := 0, locals := 105 }
theorem pd_X5_beginMaking : yX5_beginMaking.cls ≠ "java/lang/invoke/MethodHandle" ∧ yX5_beginMaking.cls ≠ "java/lang/invoke/VarHandle" ∧ (parseMethodDescriptor yX5_beginMaking.desc).map (fun d => d.parameters.length) = some 0 := by decide +kernel
theorem pn_X5_beginMaking : plainName yX5_beginMaking.cls = true := by decide +kernel
def rm5_beginMaking : Room := { frames := 1, cells := 0, slots := 0, locals := 20 }
theorem pd_X5_openWhatIsReached : yX5_openWhatIsReached.cls ≠ "java/lang/invoke/MethodHandle" ∧ yX5_openWhatIsReached.cls ≠ "java/lang/invoke/VarHandle" ∧ (parseMethodDescriptor yX5_openWhatIsReached.desc).map (fun d => d.parameters.length) = some 0 := by decide +kernel
theorem pn_X5_openWhatIsReached : plainName yX5_openWhatIsReached.cls = true := by decide +kernel
def rm5_openWhatIsReached : Room := { frames := 3, cells := 0, slots := 0, locals := 70 }
theorem pd_X5_openBehind : yX5_openBehind.cls ≠ "java/lang/invoke/MethodHandle" ∧ yX5_openBehind.cls ≠ "java/lang/invoke/VarHandle" ∧ (parseMethodDescriptor yX5_openBehind.desc).map (fun d => d.parameters.length) = some 2 := by decide +kernel
theorem pn_X5_openBehind : plainName yX5_openBehind.cls = true := by decide +kernel
def rm5_openBehind : Room := { frames := 2, cells := 0, slots := 0, locals := 45 }
theorem pd_X5_openState : yX5_openState.cls ≠ "java/lang/invoke/MethodHandle" ∧ yX5_openState.cls ≠ "java/lang/invoke/VarHandle" ∧ (parseMethodDescriptor yX5_openState.desc).map (fun d => d.parameters.length) = some 2 := by decide +kernel
theorem pn_X5_openState : plainName yX5_openState.cls = true := by decide +kernel
def rm5_openState : Room := { frames := 1, cells := 0, slots := 0, locals := 22 }
theorem pd_X5_settleAll : yX5_settleAll.cls ≠ "java/lang/invoke/MethodHandle" ∧ yX5_settleAll.cls ≠ "java/lang/invoke/VarHandle" ∧ (parseMethodDescriptor yX5_settleAll.desc).map (fun d => d.parameters.length) = some 1 := by decide +kernel
theorem pn_X5_settleAll : plainName yX5_settleAll.cls = true := by decide +kernel
def rm5_settleAll : Room := { frames := 3, cells := 0, slots := 0, locals := 82 }
theorem pd_X5_settle : yX5_settle.cls ≠ "java/lang/invoke/MethodHandle" ∧ yX5_settle.cls ≠ "java/lang/invoke/VarHandle" ∧ (parseMethodDescriptor yX5_settle.desc).map (fun d => d.parameters.length) = some 3 := by decide +kernel
theorem pn_X5_settle : plainName yX5_settle.cls = true := by decide +kernel
def rm5_settle : Room := { frames := 2, cells := 0, slots := 0, locals := 45 }
theorem pd_X5_isRather : yX5_isRather.cls ≠ "java/lang/invoke/MethodHandle" ∧ yX5_isRather.cls ≠ "java/lang/invoke/VarHandle" ∧ (parseMethodDescriptor yX5_isRather.desc).map (fun d => d.parameters.length) = some 3 := by decide +kernel
theorem pn_X5_isRather : plainName yX5_isRather.cls = true := by decide +kernel
def rm5_isRather : Room := { frames := 0, cells := 0, slots := 0, locals := 0 }
theorem pd_X5_worthsFrom : yX5_worthsFrom.cls ≠ "java/lang/invoke/MethodHandle" ∧ yX5_worthsFrom.cls ≠ "java/lang/invoke/VarHandle" ∧ (parseMethodDescriptor yX5_worthsFrom.desc).map (fun d => d.parameters.length) = some 2 := by decide +kernel
theorem pn_X5_worthsFrom : plainName yX5_worthsFrom.cls = true := by decide +kernel
def rm5_worthsFrom : Room := { frames := 1, cells := 0, slots := 0, locals := 21 }
theorem pd_X5_wordAt : yX5_wordAt.cls ≠ "java/lang/invoke/MethodHandle" ∧ yX5_wordAt.cls ≠ "java/lang/invoke/VarHandle" ∧ (parseMethodDescriptor yX5_wordAt.desc).map (fun d => d.parameters.length) = some 2 := by decide +kernel
theorem pn_X5_wordAt : plainName yX5_wordAt.cls = true := by decide +kernel
def rm5_wordAt : Room := { frames := 1, cells := 0, slots := 0, locals := 21 }
theorem pd_X5_stateOf : yX5_stateOf.cls ≠ "java/lang/invoke/MethodHandle" ∧ yX5_stateOf.cls ≠ "java/lang/invoke/VarHandle" ∧ (parseMethodDescriptor yX5_stateOf.desc).map (fun d => d.parameters.length) = some 2 := by decide +kernel
theorem pn_X5_stateOf : plainName yX5_stateOf.cls = true := by decide +kernel
def rm5_stateOf : Room := { frames := 0, cells := 0, slots := 0, locals := 0 }
theorem pd_X6_firstFault : yX6_firstFault.cls ≠ "java/lang/invoke/MethodHandle" ∧ yX6_firstFault.cls ≠ "java/lang/invoke/VarHandle" ∧ (parseMethodDescriptor yX6_firstFault.desc).map (fun d => d.parameters.length) = some 2 := by decide +kernel
theorem pn_X6_firstFault : plainName yX6_firstFault.cls = true := by decide +kernel
def rm6_firstFault : Room := { frames := 5, cells := 0, slots := 0, locals := 113 }
theorem pd_X6_readJar : yX6_readJar.cls ≠ "java/lang/invoke/MethodHandle" ∧ yX6_readJar.cls ≠ "java/lang/invoke/VarHandle" ∧ (parseMethodDescriptor yX6_readJar.desc).map (fun d => d.parameters.length) = some 0 := by decide +kernel
theorem pn_X6_readJar : plainName yX6_readJar.cls = true := by decide +kernel
def rm6_readJar : Room := { frames := 3, cells := 0, slots := 0, locals := 67 }
theorem pd_X6_readSpeaker : yX6_readSpeaker.cls ≠ "java/lang/invoke/MethodHandle" ∧ yX6_readSpeaker.cls ≠ "java/lang/invoke/VarHandle" ∧ (parseMethodDescriptor yX6_readSpeaker.desc).map (fun d => d.parameters.length) = some 0 := by decide +kernel
theorem pn_X6_readSpeaker : plainName yX6_readSpeaker.cls = true := by decide +kernel
def rm6_readSpeaker : Room := { frames := 4, cells := 0, slots := 0, locals := 91 }
theorem pd_X6_kindOfSign : yX6_kindOfSign.cls ≠ "java/lang/invoke/MethodHandle" ∧ yX6_kindOfSign.cls ≠ "java/lang/invoke/VarHandle" ∧ (parseMethodDescriptor yX6_kindOfSign.desc).map (fun d => d.parameters.length) = some 0 := by decide +kernel
theorem pn_X6_kindOfSign : plainName yX6_kindOfSign.cls = true := by decide +kernel
def rm6_kindOfSign : Room := { frames := 2, cells := 0, slots := 0, locals := 42 }
theorem pd_X6_readWord : yX6_readWord.cls ≠ "java/lang/invoke/MethodHandle" ∧ yX6_readWord.cls ≠ "java/lang/invoke/VarHandle" ∧ (parseMethodDescriptor yX6_readWord.desc).map (fun d => d.parameters.length) = some 0 := by decide +kernel
theorem pn_X6_readWord : plainName yX6_readWord.cls = true := by decide +kernel
def rm6_readWord : Room := { frames := 3, cells := 0, slots := 0, locals := 68 }
theorem pd_X6_readNumber : yX6_readNumber.cls ≠ "java/lang/invoke/MethodHandle" ∧ yX6_readNumber.cls ≠ "java/lang/invoke/VarHandle" ∧ (parseMethodDescriptor yX6_readNumber.desc).map (fun d => d.parameters.length) = some 1 := by decide +kernel
theorem pn_X6_readNumber : plainName yX6_readNumber.cls = true := by decide +kernel
def rm6_readNumber : Room := { frames := 2, cells := 0, slots := 0, locals := 42 }
theorem pd_X6_readDigit : yX6_readDigit.cls ≠ "java/lang/invoke/MethodHandle" ∧ yX6_readDigit.cls ≠ "java/lang/invoke/VarHandle" ∧ (parseMethodDescriptor yX6_readDigit.desc).map (fun d => d.parameters.length) = some 0 := by decide +kernel
theorem pn_X6_readDigit : plainName yX6_readDigit.cls = true := by decide +kernel
def rm6_readDigit : Room := { frames := 1, cells := 0, slots := 0, locals := 21 }
theorem pd_X6_readSign : yX6_readSign.cls ≠ "java/lang/invoke/MethodHandle" ∧ yX6_readSign.cls ≠ "java/lang/invoke/VarHandle" ∧ (parseMethodDescriptor yX6_readSign.desc).map (fun d => d.parameters.length) = some 1 := by decide +kernel
theorem pn_X6_readSign : plainName yX6_readSign.cls = true := by decide +kernel
def rm6_readSign : Room := { frames := 2, cells := 0, slots := 0, locals := 42 }
theorem pd_X6_isNext : yX6_isNext.cls ≠ "java/lang/invoke/MethodHandle" ∧ yX6_isNext.cls ≠ "java/lang/invoke/VarHandle" ∧ (parseMethodDescriptor yX6_isNext.desc).map (fun d => d.parameters.length) = some 1 := by decide +kernel
theorem pn_X6_isNext : plainName yX6_isNext.cls = true := by decide +kernel
def rm6_isNext : Room := { frames := 1, cells := 0, slots := 0, locals := 21 }
theorem pd_X7_isSheet : yX7_isSheet.cls ≠ "java/lang/invoke/MethodHandle" ∧ yX7_isSheet.cls ≠ "java/lang/invoke/VarHandle" ∧ (parseMethodDescriptor yX7_isSheet.desc).map (fun d => d.parameters.length) = some 1 := by decide +kernel
theorem pn_X7_isSheet : plainName yX7_isSheet.cls = true := by decide +kernel
def rm7_isSheet : Room := { frames := 0, cells := 0, slots := 0, locals := 0 }
theorem pd_X7_isLane : yX7_isLane.cls ≠ "java/lang/invoke/MethodHandle" ∧ yX7_isLane.cls ≠ "java/lang/invoke/VarHandle" ∧ (parseMethodDescriptor yX7_isLane.desc).map (fun d => d.parameters.length) = some 1 := by decide +kernel
theorem pn_X7_isLane : plainName yX7_isLane.cls = true := by decide +kernel
def rm7_isLane : Room := { frames := 0, cells := 0, slots := 0, locals := 0 }
theorem pd_X7_laneOf : yX7_laneOf.cls ≠ "java/lang/invoke/MethodHandle" ∧ yX7_laneOf.cls ≠ "java/lang/invoke/VarHandle" ∧ (parseMethodDescriptor yX7_laneOf.desc).map (fun d => d.parameters.length) = some 1 := by decide +kernel
theorem pn_X7_laneOf : plainName yX7_laneOf.cls = true := by decide +kernel
def rm7_laneOf : Room := { frames := 1, cells := 0, slots := 0, locals := 21 }
theorem pd_X7_sizeOf : yX7_sizeOf.cls ≠ "java/lang/invoke/MethodHandle" ∧ yX7_sizeOf.cls ≠ "java/lang/invoke/VarHandle" ∧ (parseMethodDescriptor yX7_sizeOf.desc).map (fun d => d.parameters.length) = some 1 := by decide +kernel
theorem pn_X7_sizeOf : plainName yX7_sizeOf.cls = true := by decide +kernel
def rm7_sizeOf : Room := { frames := 1, cells := 0, slots := 0, locals := 21 }
theorem pd_X7_isEmpty : yX7_isEmpty.cls ≠ "java/lang/invoke/MethodHandle" ∧ yX7_isEmpty.cls ≠ "java/lang/invoke/VarHandle" ∧ (parseMethodDescriptor yX7_isEmpty.desc).map (fun d => d.parameters.length) = some 1 := by decide +kernel
theorem pn_X7_isEmpty : plainName yX7_isEmpty.cls = true := by decide +kernel
def rm7_isEmpty : Room := { frames := 2, cells := 0, slots := 0, locals := 42 }
theorem pd_X7_placeOf : yX7_placeOf.cls ≠ "java/lang/invoke/MethodHandle" ∧ yX7_placeOf.cls ≠ "java/lang/invoke/VarHandle" ∧ (parseMethodDescriptor yX7_placeOf.desc).map (fun d => d.parameters.length) = some 2 := by decide +kernel
theorem pn_X7_placeOf : plainName yX7_placeOf.cls = true := by decide +kernel
def rm7_placeOf : Room := { frames := 0, cells := 0, slots := 0, locals := 0 }
theorem pd_X7_valueAt : yX7_valueAt.cls ≠ "java/lang/invoke/MethodHandle" ∧ yX7_valueAt.cls ≠ "java/lang/invoke/VarHandle" ∧ (parseMethodDescriptor yX7_valueAt.desc).map (fun d => d.parameters.length) = some 2 := by decide +kernel
theorem pn_X7_valueAt : plainName yX7_valueAt.cls = true := by decide +kernel
def rm7_valueAt : Room := { frames := 1, cells := 0, slots := 0, locals := 21 }
theorem pd_X7_renew : yX7_renew.cls ≠ "java/lang/invoke/MethodHandle" ∧ yX7_renew.cls ≠ "java/lang/invoke/VarHandle" ∧ (parseMethodDescriptor yX7_renew.desc).map (fun d => d.parameters.length) = some 3 := by decide +kernel
theorem pn_X7_renew : plainName yX7_renew.cls = true := by decide +kernel
def rm7_renew : Room := { frames := 1, cells := 0, slots := 0, locals := 22 }
theorem pd_X7_store : yX7_store.cls ≠ "java/lang/invoke/MethodHandle" ∧ yX7_store.cls ≠ "java/lang/invoke/VarHandle" ∧ (parseMethodDescriptor yX7_store.desc).map (fun d => d.parameters.length) = some 3 := by decide +kernel
theorem pn_X7_store : plainName yX7_store.cls = true := by decide +kernel
def rm7_store : Room := { frames := 2, cells := 0, slots := 0, locals := 42 }
theorem pd_X7_cutTo : yX7_cutTo.cls ≠ "java/lang/invoke/MethodHandle" ∧ yX7_cutTo.cls ≠ "java/lang/invoke/VarHandle" ∧ (parseMethodDescriptor yX7_cutTo.desc).map (fun d => d.parameters.length) = some 2 := by decide +kernel
theorem pn_X7_cutTo : plainName yX7_cutTo.cls = true := by decide +kernel
def rm7_cutTo : Room := { frames := 0, cells := 0, slots := 0, locals := 0 }
theorem pd_X7_hasPart : yX7_hasPart.cls ≠ "java/lang/invoke/MethodHandle" ∧ yX7_hasPart.cls ≠ "java/lang/invoke/VarHandle" ∧ (parseMethodDescriptor yX7_hasPart.desc).map (fun d => d.parameters.length) = some 3 := by decide +kernel
theorem pn_X7_hasPart : plainName yX7_hasPart.cls = true := by decide +kernel
def rm7_hasPart : Room := { frames := 2, cells := 0, slots := 0, locals := 42 }
theorem pd_X7_rowRefusal : yX7_rowRefusal.cls ≠ "java/lang/invoke/MethodHandle" ∧ yX7_rowRefusal.cls ≠ "java/lang/invoke/VarHandle" ∧ (parseMethodDescriptor yX7_rowRefusal.desc).map (fun d => d.parameters.length) = some 2 := by decide +kernel
theorem pn_X7_rowRefusal : plainName yX7_rowRefusal.cls = true := by decide +kernel
def rm7_rowRefusal : Room := { frames := 3, cells := 0, slots := 0, locals := 63 }
theorem pd_X7_partRefusal : yX7_partRefusal.cls ≠ "java/lang/invoke/MethodHandle" ∧ yX7_partRefusal.cls ≠ "java/lang/invoke/VarHandle" ∧ (parseMethodDescriptor yX7_partRefusal.desc).map (fun d => d.parameters.length) = some 4 := by decide +kernel
theorem pn_X7_partRefusal : plainName yX7_partRefusal.cls = true := by decide +kernel
def rm7_partRefusal : Room := { frames := 4, cells := 0, slots := 0, locals := 85 }
theorem pd_X8_at : yX8_at.cls ≠ "java/lang/invoke/MethodHandle" ∧ yX8_at.cls ≠ "java/lang/invoke/VarHandle" ∧ (parseMethodDescriptor yX8_at.desc).map (fun d => d.parameters.length) = some 2 := by decide +kernel
theorem pn_X8_at : plainName yX8_at.cls = true := by decide +kernel
def rm8_at : Room := { frames := 0, cells := 0, slots := 0, locals := 0 }
theorem pd_X8_set : yX8_set.cls ≠ "java/lang/invoke/MethodHandle" ∧ yX8_set.cls ≠ "java/lang/invoke/VarHandle" ∧ (parseMethodDescriptor yX8_set.desc).map (fun d => d.parameters.length) = some 3 := by decide +kernel
theorem pn_X8_set : plainName yX8_set.cls = true := by decide +kernel
def rm8_set : Room := { frames := 0, cells := 0, slots := 0, locals := 0 }
theorem pd_X8_longAt : yX8_longAt.cls ≠ "java/lang/invoke/MethodHandle" ∧ yX8_longAt.cls ≠ "java/lang/invoke/VarHandle" ∧ (parseMethodDescriptor yX8_longAt.desc).map (fun d => d.parameters.length) = some 2 := by decide +kernel
theorem pn_X8_longAt : plainName yX8_longAt.cls = true := by decide +kernel
def rm8_longAt : Room := { frames := 0, cells := 0, slots := 0, locals := 0 }
theorem pd_X8_setLong : yX8_setLong.cls ≠ "java/lang/invoke/MethodHandle" ∧ yX8_setLong.cls ≠ "java/lang/invoke/VarHandle" ∧ (parseMethodDescriptor yX8_setLong.desc).map (fun d => d.parameters.length) = some 3 := by decide +kernel
theorem pn_X8_setLong : plainName yX8_setLong.cls = true := by decide +kernel
def rm8_setLong : Room := { frames := 0, cells := 0, slots := 0, locals := 0 }
theorem pd_X8_worthIn : yX8_worthIn.cls ≠ "java/lang/invoke/MethodHandle" ∧ yX8_worthIn.cls ≠ "java/lang/invoke/VarHandle" ∧ (parseMethodDescriptor yX8_worthIn.desc).map (fun d => d.parameters.length) = some 2 := by decide +kernel
theorem pn_X8_worthIn : plainName yX8_worthIn.cls = true := by decide +kernel
def rm8_worthIn : Room := { frames := 0, cells := 0, slots := 0, locals := 0 }
theorem pd_X8_worthToAll : yX8_worthToAll.cls ≠ "java/lang/invoke/MethodHandle" ∧ yX8_worthToAll.cls ≠ "java/lang/invoke/VarHandle" ∧ (parseMethodDescriptor yX8_worthToAll.desc).map (fun d => d.parameters.length) = some 1 := by decide +kernel
theorem pn_X8_worthToAll : plainName yX8_worthToAll.cls = true := by decide +kernel
def rm8_worthToAll : Room := { frames := 1, cells := 0, slots := 0, locals := 22 }
theorem pd_X8_council : yX8_council.cls ≠ "java/lang/invoke/MethodHandle" ∧ yX8_council.cls ≠ "java/lang/invoke/VarHandle" ∧ (parseMethodDescriptor yX8_council.desc).map (fun d => d.parameters.length) = some 4 := by decide +kernel
theorem pn_X8_council : plainName yX8_council.cls = true := by decide +kernel
def rm8_council : Room := { frames := 6, cells := 0, slots := 0, locals := 136 }
theorem pd_X8_law : yX8_law.cls ≠ "java/lang/invoke/MethodHandle" ∧ yX8_law.cls ≠ "java/lang/invoke/VarHandle" ∧ (parseMethodDescriptor yX8_law.desc).map (fun d => d.parameters.length) = some 1 := by decide +kernel
theorem pn_X8_law : plainName yX8_law.cls = true := by decide +kernel
def rm8_law : Room := { frames := 2, cells := 0, slots := 0, locals := 40 }
theorem pd_X8_swap : yX8_swap.cls ≠ "java/lang/invoke/MethodHandle" ∧ yX8_swap.cls ≠ "java/lang/invoke/VarHandle" ∧ (parseMethodDescriptor yX8_swap.desc).map (fun d => d.parameters.length) = some 2 := by decide +kernel
theorem pn_X8_swap : plainName yX8_swap.cls = true := by decide +kernel
def rm8_swap : Room := { frames := 3, cells := 0, slots := 0, locals := 65 }
theorem pd_X8_forgetWhatWas : yX8_forgetWhatWas.cls ≠ "java/lang/invoke/MethodHandle" ∧ yX8_forgetWhatWas.cls ≠ "java/lang/invoke/VarHandle" ∧ (parseMethodDescriptor yX8_forgetWhatWas.desc).map (fun d => d.parameters.length) = some 0 := by decide +kernel
theorem pn_X8_forgetWhatWas : plainName yX8_forgetWhatWas.cls = true := by decide +kernel
def rm8_forgetWhatWas : Room := { frames := 1, cells := 0, slots := 0, locals := 20 }
theorem pd_X8_areWords : yX8_areWords.cls ≠ "java/lang/invoke/MethodHandle" ∧ yX8_areWords.cls ≠ "java/lang/invoke/VarHandle" ∧ (parseMethodDescriptor yX8_areWords.desc).map (fun d => d.parameters.length) = some 3 := by decide +kernel
theorem pn_X8_areWords : plainName yX8_areWords.cls = true := by decide +kernel
def rm8_areWords : Room := { frames := 3, cells := 0, slots := 0, locals := 64 }
theorem pd_X8_choice : yX8_choice.cls ≠ "java/lang/invoke/MethodHandle" ∧ yX8_choice.cls ≠ "java/lang/invoke/VarHandle" ∧ (parseMethodDescriptor yX8_choice.desc).map (fun d => d.parameters.length) = some 2 := by decide +kernel
theorem pn_X8_choice : plainName yX8_choice.cls = true := by decide +kernel
def rm8_choice : Room := { frames := 6, cells := 0, slots := 0, locals := 147 }
theorem pd_X8_says : yX8_says.cls ≠ "java/lang/invoke/MethodHandle" ∧ yX8_says.cls ≠ "java/lang/invoke/VarHandle" ∧ (parseMethodDescriptor yX8_says.desc).map (fun d => d.parameters.length) = some 1 := by decide +kernel
theorem pn_X8_says : plainName yX8_says.cls = true := by decide +kernel
def rm8_says : Room := { frames := 6, cells := 0, slots := 0, locals := 147 }
theorem pd_X8_together : yX8_together.cls ≠ "java/lang/invoke/MethodHandle" ∧ yX8_together.cls ≠ "java/lang/invoke/VarHandle" ∧ (parseMethodDescriptor yX8_together.desc).map (fun d => d.parameters.length) = some 1 := by decide +kernel
theorem pn_X8_together : plainName yX8_together.cls = true := by decide +kernel
def rm8_together : Room := { frames := 5, cells := 0, slots := 0, locals := 125 }
theorem pd_X8_planAhead : yX8_planAhead.cls ≠ "java/lang/invoke/MethodHandle" ∧ yX8_planAhead.cls ≠ "java/lang/invoke/VarHandle" ∧ (parseMethodDescriptor yX8_planAhead.desc).map (fun d => d.parameters.length) = some 0 := by decide +kernel
theorem pn_X8_planAhead : plainName yX8_planAhead.cls = true := by decide +kernel
def rm8_planAhead : Room := { frames := 5, cells := 0, slots := 0, locals := 127 }
theorem pd_X8_owed : yX8_owed.cls ≠ "java/lang/invoke/MethodHandle" ∧ yX8_owed.cls ≠ "java/lang/invoke/VarHandle" ∧ (parseMethodDescriptor yX8_owed.desc).map (fun d => d.parameters.length) = some 2 := by decide +kernel
theorem pn_X8_owed : plainName yX8_owed.cls = true := by decide +kernel
def rm8_owed : Room := { frames := 6, cells := 0, slots := 0, locals := 147 }
theorem pd_X8_bargain : yX8_bargain.cls ≠ "java/lang/invoke/MethodHandle" ∧ yX8_bargain.cls ≠ "java/lang/invoke/VarHandle" ∧ (parseMethodDescriptor yX8_bargain.desc).map (fun d => d.parameters.length) = some 2 := by decide +kernel
theorem pn_X8_bargain : plainName yX8_bargain.cls = true := by decide +kernel
def rm8_bargain : Room := { frames := 6, cells := 0, slots := 0, locals := 147 }
theorem pd_X8_areTwo : yX8_areTwo.cls ≠ "java/lang/invoke/MethodHandle" ∧ yX8_areTwo.cls ≠ "java/lang/invoke/VarHandle" ∧ (parseMethodDescriptor yX8_areTwo.desc).map (fun d => d.parameters.length) = some 2 := by decide +kernel
theorem pn_X8_areTwo : plainName yX8_areTwo.cls = true := by decide +kernel
def rm8_areTwo : Room := { frames := 1, cells := 0, slots := 0, locals := 21 }
theorem pd_X8_motion : yX8_motion.cls ≠ "java/lang/invoke/MethodHandle" ∧ yX8_motion.cls ≠ "java/lang/invoke/VarHandle" ∧ (parseMethodDescriptor yX8_motion.desc).map (fun d => d.parameters.length) = some 3 := by decide +kernel
theorem pn_X8_motion : plainName yX8_motion.cls = true := by decide +kernel
def rm8_motion : Room := { frames := 6, cells := 0, slots := 0, locals := 147 }
theorem pd_X8_dry : yX8_dry.cls ≠ "java/lang/invoke/MethodHandle" ∧ yX8_dry.cls ≠ "java/lang/invoke/VarHandle" ∧ (parseMethodDescriptor yX8_dry.desc).map (fun d => d.parameters.length) = some 2 := by decide +kernel
theorem pn_X8_dry : plainName yX8_dry.cls = true := by decide +kernel
def rm8_dry : Room := { frames := 6, cells := 0, slots := 0, locals := 147 }
theorem pd_X8_canSilence : yX8_canSilence.cls ≠ "java/lang/invoke/MethodHandle" ∧ yX8_canSilence.cls ≠ "java/lang/invoke/VarHandle" ∧ (parseMethodDescriptor yX8_canSilence.desc).map (fun d => d.parameters.length) = some 3 := by decide +kernel
theorem pn_X8_canSilence : plainName yX8_canSilence.cls = true := by decide +kernel
def rm8_canSilence : Room := { frames := 4, cells := 0, slots := 0, locals := 89 }
theorem pd_X8_day : yX8_day.cls ≠ "java/lang/invoke/MethodHandle" ∧ yX8_day.cls ≠ "java/lang/invoke/VarHandle" ∧ (parseMethodDescriptor yX8_day.desc).map (fun d => d.parameters.length) = some 4 := by decide +kernel
theorem pn_X8_day : plainName yX8_day.cls = true := by decide +kernel
def rm8_day : Room := { frames := 5, cells := 0, slots := 0, locals := 110 }
theorem pd_X8_back : yX8_back.cls ≠ "java/lang/invoke/MethodHandle" ∧ yX8_back.cls ≠ "java/lang/invoke/VarHandle" ∧ (parseMethodDescriptor yX8_back.desc).map (fun d => d.parameters.length) = some 1 := by decide +kernel
theorem pn_X8_back : plainName yX8_back.cls = true := by decide +kernel
def rm8_back : Room := { frames := 0, cells := 0, slots := 0, locals := 0 }
theorem pd_X8_guess : yX8_guess.cls ≠ "java/lang/invoke/MethodHandle" ∧ yX8_guess.cls ≠ "java/lang/invoke/VarHandle" ∧ (parseMethodDescriptor yX8_guess.desc).map (fun d => d.parameters.length) = some 1 := by decide +kernel
theorem pn_X8_guess : plainName yX8_guess.cls = true := by decide +kernel
def rm8_guess : Room := { frames := 5, cells := 0, slots := 0, locals := 114 }
theorem pd_X8_byLaw : yX8_byLaw.cls ≠ "java/lang/invoke/MethodHandle" ∧ yX8_byLaw.cls ≠ "java/lang/invoke/VarHandle" ∧ (parseMethodDescriptor yX8_byLaw.desc).map (fun d => d.parameters.length) = some 1 := by decide +kernel
theorem pn_X8_byLaw : plainName yX8_byLaw.cls = true := by decide +kernel
def rm8_byLaw : Room := { frames := 6, cells := 0, slots := 0, locals := 146 }
theorem pd_X8_worthUnder : yX8_worthUnder.cls ≠ "java/lang/invoke/MethodHandle" ∧ yX8_worthUnder.cls ≠ "java/lang/invoke/VarHandle" ∧ (parseMethodDescriptor yX8_worthUnder.desc).map (fun d => d.parameters.length) = some 1 := by decide +kernel
theorem pn_X8_worthUnder : plainName yX8_worthUnder.cls = true := by decide +kernel
def rm8_worthUnder : Room := { frames := 5, cells := 0, slots := 0, locals := 125 }
theorem pd_X8_share : yX8_share.cls ≠ "java/lang/invoke/MethodHandle" ∧ yX8_share.cls ≠ "java/lang/invoke/VarHandle" ∧ (parseMethodDescriptor yX8_share.desc).map (fun d => d.parameters.length) = some 2 := by decide +kernel
theorem pn_X8_share : plainName yX8_share.cls = true := by decide +kernel
def rm8_share : Room := { frames := 6, cells := 0, slots := 0, locals := 147 }
theorem pd_X8_commonPart : yX8_commonPart.cls ≠ "java/lang/invoke/MethodHandle" ∧ yX8_commonPart.cls ≠ "java/lang/invoke/VarHandle" ∧ (parseMethodDescriptor yX8_commonPart.desc).map (fun d => d.parameters.length) = some 2 := by decide +kernel
theorem pn_X8_commonPart : plainName yX8_commonPart.cls = true := by decide +kernel
def rm8_commonPart : Room := { frames := 0, cells := 0, slots := 0, locals := 0 }
theorem pd_X8_sheet : yX8_sheet.cls ≠ "java/lang/invoke/MethodHandle" ∧ yX8_sheet.cls ≠ "java/lang/invoke/VarHandle" ∧ (parseMethodDescriptor yX8_sheet.desc).map (fun d => d.parameters.length) = some 3 := by decide +kernel
theorem pn_X8_sheet : plainName yX8_sheet.cls = true := by decide +kernel
def rm8_sheet : Room := { frames := 2, cells := 0, slots := 0, locals := 46 }
theorem pd_X8_put : yX8_put.cls ≠ "java/lang/invoke/MethodHandle" ∧ yX8_put.cls ≠ "java/lang/invoke/VarHandle" ∧ (parseMethodDescriptor yX8_put.desc).map (fun d => d.parameters.length) = some 3 := by decide +kernel
theorem pn_X8_put : plainName yX8_put.cls = true := by decide +kernel
def rm8_put : Room := { frames := 3, cells := 0, slots := 0, locals := 65 }
theorem pd_X8_many : yX8_many.cls ≠ "java/lang/invoke/MethodHandle" ∧ yX8_many.cls ≠ "java/lang/invoke/VarHandle" ∧ (parseMethodDescriptor yX8_many.desc).map (fun d => d.parameters.length) = some 1 := by decide +kernel
theorem pn_X8_many : plainName yX8_many.cls = true := by decide +kernel
def rm8_many : Room := { frames := 1, cells := 0, slots := 0, locals := 20 }
theorem pd_X8_told : yX8_told.cls ≠ "java/lang/invoke/MethodHandle" ∧ yX8_told.cls ≠ "java/lang/invoke/VarHandle" ∧ (parseMethodDescriptor yX8_told.desc).map (fun d => d.parameters.length) = some 1 := by decide +kernel
theorem pn_X8_told : plainName yX8_told.cls = true := by decide +kernel
def rm8_told : Room := { frames := 0, cells := 0, slots := 0, locals := 0 }
