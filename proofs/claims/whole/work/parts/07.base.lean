/-! the worlds of the class (SC) and of the model (SM), their groups of cells, and what the functions and contracts of the methods are made of -/
def SC : Shp := [(8 + 2, 0, [1 + 2, 5 + 2, 19 + 2, 20 + 2, 22 + 2, 27 + 2, 30 + 2, 32 + 2, 37 + 2, 40 + 2, 44 + 2, 0, 0, 0]), (7 + 2, 0, [2 + 2, 3 + 2, 4 + 2]), (0, 4, []), (0, 4, []), (0, 400, []), (4 + 2, 0, [0, 0, 0, 6 + 2, 7 + 2, 8 + 2, 9 + 2, 10 + 2, 11 + 2]), (0, 5, []), (0, 5, []), (0, 15, []), (0, 15, []), (0, 15, []), (1, 15, []), (4 + 2, 0, [0, 0, 0, 13 + 2, 14 + 2, 15 + 2, 16 + 2, 17 + 2, 18 + 2]), (0, 5, []), (0, 5, []), (0, 15, []), (0, 15, []), (0, 15, []), (1, 15, []), (6 + 2, 0, [1 + 2, 12 + 2, 0, 0, 0, 0, 0]), (0 + 2, 0, [5 + 2, 21 + 2, 0, 0]), (0, 5, []), (5 + 2, 0, [20 + 2, 5 + 2, 23 + 2, 24 + 2, 25 + 2, 0, 26 + 2, 0, 0]), (0, 600, []), (1, 600, []), (0, 600, []), (0, 600, []), (1 + 2, 0, [22 + 2, 20 + 2, 5 + 2, 28 + 2, 29 + 2, 0, 0, 0, 0, 1]), (0, 6, []), (0, 6, []), (0 + 2, 0, [5 + 2, 31 + 2, 0, 0]), (0, 5, []), (5 + 2, 0, [30 + 2, 5 + 2, 33 + 2, 34 + 2, 35 + 2, 0, 36 + 2, 0, 0]), (0, 600, []), (1, 600, []), (0, 600, []), (0, 600, []), (1 + 2, 0, [32 + 2, 30 + 2, 5 + 2, 38 + 2, 39 + 2, 0, 0, 0, 0, 1]), (0, 6, []), (0, 6, []), (2 + 2, 0, [41 + 2, 42 + 2, 43 + 2, 0]), (0, 36, []), (0, 6, []), (0, 6, []), (3 + 2, 0, [20 + 2, 30 + 2, 32 + 2, 37 + 2, 45 + 2, 46 + 2, 0]), (0, 15, []), (0, 15, [])]
def SM : Shp := [(9 + 2, 0, [0, 0, 0, 0, 0, 1 + 2, 2 + 2, 3 + 2, 4 + 2, 5 + 2, 6 + 2, 0, 0, 0, 0, 7 + 2, 8 + 2, 9 + 2, 10 + 2, 11 + 2, 12 + 2, 13 + 2, 14 + 2, 0, 0, 15 + 2, 16 + 2, 17 + 2, 18 + 2, 0, 19 + 2, 20 + 2, 21 + 2, 22 + 2, 23 + 2, 24 + 2, 0]), (0, 5, []), (0, 5, []), (0, 15, []), (0, 15, []), (0, 15, []), (0, 5, []), (0, 5, []), (0, 5, []), (0, 15, []), (0, 15, []), (0, 15, []), (0, 6, []), (0, 7, []), (0, 5, []), (0, 600, []), (0, 3500, []), (0, 6, []), (0, 5, []), (0, 36, []), (0, 6, []), (0, 4, []), (0, 4, []), (0, 400, []), (0, 100, [])]
def Grp (g : Nat) : Prop := SC[g]? = some (0 + 2, 0, [5 + 2, (g + 1) + 2, 0, 0]) ∧ SC[g + 1]? = some (0, 5, []) ∧ SC[g + 2]? = some (5 + 2, 0, [g + 2, 5 + 2, (g + 3) + 2, (g + 4) + 2, (g + 5) + 2, 0, (g + 6) + 2, 0, 0]) ∧ SC[g + 3]? = some (0, 600, []) ∧ SC[g + 4]? = some (1, 600, []) ∧ SC[g + 5]? = some (0, 600, []) ∧ SC[g + 6]? = some (0, 600, []) ∧ SC[g + 7]? = some (1 + 2, 0, [(g + 2) + 2, g + 2, 5 + 2, (g + 8) + 2, (g + 9) + 2, 0, 0, 0, 0, 1]) ∧ SC[g + 8]? = some (0, 6, []) ∧ SC[g + 9]? = some (0, 6, [])
def Ppl (b : Nat) : Prop := SC[b]? = some (4 + 2, 0, [0, 0, 0, (b + 1) + 2, (b + 2) + 2, (b + 3) + 2, (b + 4) + 2, (b + 5) + 2, (b + 6) + 2]) ∧ SC[b + 1]? = some (0, 5, []) ∧ SC[b + 2]? = some (0, 5, []) ∧ SC[b + 3]? = some (0, 15, []) ∧ SC[b + 4]? = some (0, 15, []) ∧ SC[b + 5]? = some (0, 15, []) ∧ SC[b + 6]? = some (1, 15, [])
theorem gr0 {g : Nat} (h : Grp g) : SC[g]? = some (0 + 2, 0, [5 + 2, (g + 1) + 2, 0, 0]) := h.1
theorem gr1 {g : Nat} (h : Grp g) : SC[g + 1]? = some (0, 5, []) := h.2.1
theorem gr2 {g : Nat} (h : Grp g) : SC[g + 2]? = some (5 + 2, 0, [g + 2, 5 + 2, (g + 3) + 2, (g + 4) + 2, (g + 5) + 2, 0, (g + 6) + 2, 0, 0]) := h.2.2.1
theorem gr3 {g : Nat} (h : Grp g) : SC[g + 3]? = some (0, 600, []) := h.2.2.2.1
theorem gr4 {g : Nat} (h : Grp g) : SC[g + 4]? = some (1, 600, []) := h.2.2.2.2.1
theorem gr5 {g : Nat} (h : Grp g) : SC[g + 5]? = some (0, 600, []) := h.2.2.2.2.2.1
theorem gr6 {g : Nat} (h : Grp g) : SC[g + 6]? = some (0, 600, []) := h.2.2.2.2.2.2.1
theorem gr7 {g : Nat} (h : Grp g) : SC[g + 7]? = some (1 + 2, 0, [(g + 2) + 2, g + 2, 5 + 2, (g + 8) + 2, (g + 9) + 2, 0, 0, 0, 0, 1]) := h.2.2.2.2.2.2.2.1
theorem gr8 {g : Nat} (h : Grp g) : SC[g + 8]? = some (0, 6, []) := h.2.2.2.2.2.2.2.2.1
theorem gr9 {g : Nat} (h : Grp g) : SC[g + 9]? = some (0, 6, []) := h.2.2.2.2.2.2.2.2.2
theorem pp0 {b : Nat} (h : Ppl b) : SC[b]? = some (4 + 2, 0, [0, 0, 0, (b + 1) + 2, (b + 2) + 2, (b + 3) + 2, (b + 4) + 2, (b + 5) + 2, (b + 6) + 2]) := h.1
theorem pp1 {b : Nat} (h : Ppl b) : SC[b + 1]? = some (0, 5, []) := h.2.1
theorem pp2 {b : Nat} (h : Ppl b) : SC[b + 2]? = some (0, 5, []) := h.2.2.1
theorem pp3 {b : Nat} (h : Ppl b) : SC[b + 3]? = some (0, 15, []) := h.2.2.2.1
theorem pp4 {b : Nat} (h : Ppl b) : SC[b + 4]? = some (0, 15, []) := h.2.2.2.2.1
theorem pp5 {b : Nat} (h : Ppl b) : SC[b + 5]? = some (0, 15, []) := h.2.2.2.2.2.1
theorem pp6 {b : Nat} (h : Ppl b) : SC[b + 6]? = some (1, 15, []) := h.2.2.2.2.2.2
theorem grp20 : Grp 20 := ⟨rfl, rfl, rfl, rfl, rfl, rfl, rfl, rfl, rfl, rfl⟩
theorem grp30 : Grp 30 := ⟨rfl, rfl, rfl, rfl, rfl, rfl, rfl, rfl, rfl, rfl⟩
theorem ppl5 : Ppl 5 := ⟨rfl, rfl, rfl, rfl, rfl, rfl, rfl⟩
theorem ppl12 : Ppl 12 := ⟨rfl, rfl, rfl, rfl, rfl, rfl, rfl⟩
def wloop {P ρ : Type} (body : (P → Option ρ) → P → Option ρ) : Nat → P → Option ρ
  | 0, _ => none
  | n + 1, p => body (wloop body n) p
theorem wloop_run {P ρ : Type} {body : (P → Option ρ) → P → Option ρ} {Q : P → ρ → Prop} (hb : ∀ k : P → Option ρ, (∀ p r, k p = some r → Q p r) → ∀ p r, body k p = some r → Q p r) : ∀ (n : Nat) (p : P) (r : ρ), wloop body n p = some r → Q p r := by
  intro n
  induction n with
  | zero => intro p r h; cases h
  | succ n ih => intro p r h; exact hb _ ih p r h
def fuelN : Nat := 1000000
def bd {α β : Type} (o : Option α) (f : α → Option β) : Option β := match o with
  | none => none
  | some y => f y
theorem bd_some {α β : Type} {o : Option α} {f : α → Option β} {x : β} (h : bd o f = some x) : ∃ y, o = some y ∧ f y = some x := by
  cases o with
  | none => cases h
  | some y => exact ⟨y, rfl, h⟩
theorem gn_some {c : Prop} [Decidable c] {α : Type} {o : Option α} {x : α} (h : (if c then none else o) = some x) : ¬ c ∧ o = some x := by
  by_cases hc : c
  · rw [if_pos hc] at h; cases h
  · rw [if_neg hc] at h; exact ⟨hc, h⟩
theorem gp_some {c : Prop} [Decidable c] {α : Type} {o : Option α} {x : α} (h : (if c then o else none) = some x) : c ∧ o = some x := by
  by_cases hc : c
  · rw [if_pos hc] at h; exact ⟨hc, h⟩
  · rw [if_neg hc] at h; cases h
theorem ite_t {c : Prop} [Decidable c] {α : Type} {a b x : α} (hc : c) (h : (if c then a else b) = x) : a = x := by rw [if_pos hc] at h; exact h
theorem ite_f {c : Prop} [Decidable c] {α : Type} {a b x : α} (hc : ¬ c) (h : (if c then a else b) = x) : b = x := by rw [if_neg hc] at h; exact h
theorem h9 {x : Int32} {σ : HS} {r : Int32 × HS} (h : (x, σ) = r) : ((some (Value.int r.1), r.2) : Option Value × HS) = (some (.int x), σ) := by rw [← h]
theorem h9L {x : Int64} {σ : HS} {r : Int64 × HS} (h : (x, σ) = r) : ((some (Value.long r.1), r.2) : Option Value × HS) = (some (.long x), σ) := by rw [← h]
theorem h9v {σ r : HS} (h : σ = r) : ((none, r) : Option Value × HS) = (none, σ) := by rw [h]
theorem lgc_lt {x y : Int64} (h : x < y) : lg_cmp x y = -1 := by
  have h2 : ¬ y < x := lg_lt_not h
  simp [lg_cmp, h, h2]
theorem lgc_gt {x y : Int64} (h : y < x) : lg_cmp x y = 1 := by simp [lg_cmp, h]
theorem lgc_eq (x : Int64) : lg_cmp x x = 0 := by
  have h : ¬ x < x := fun h => lg_lt_not h h
  simp [lg_cmp, h]
theorem lgc_three (x y : Int64) : x < y ∨ x = y ∨ y < x := by
  simp only [Int64.lt_iff_toInt_lt, ← Int64.toInt_inj]; omega
theorem lg_lt {x y : Int64} : lg_cmp x y < 0 ↔ x < y := by
  rcases lgc_three x y with h | rfl | h
  · rw [lgc_lt h]; simp [h]; decide
  · rw [lgc_eq]; simp only [show ¬ ((0 : Int32) < 0) by decide, false_iff]; exact fun h => lg_lt_not h h
  · rw [lgc_gt h]; simp only [show ¬ ((1 : Int32) < 0) by decide, false_iff]; exact lg_lt_not h
theorem lg_gt {x y : Int64} : 0 < lg_cmp x y ↔ y < x := by
  rcases lgc_three x y with h | rfl | h
  · rw [lgc_lt h]; simp only [show ¬ ((0 : Int32) < -1) by decide, false_iff]; exact lg_lt_not h
  · rw [lgc_eq]; simp only [show ¬ ((0 : Int32) < 0) by decide, false_iff]; exact fun h => lg_lt_not h h
  · rw [lgc_gt h]; simp [h]; decide
theorem lg_eq {x y : Int64} : lg_cmp x y = 0 ↔ x = y := by
  rcases lgc_three x y with h | rfl | h
  · rw [lgc_lt h]; simp only [show ¬ ((-1 : Int32) = 0) by decide, false_iff]; intro e; subst e; exact lg_lt_not h h
  · rw [lgc_eq]; simp
  · rw [lgc_gt h]; simp only [show ¬ ((1 : Int32) = 0) by decide, false_iff]; intro e; subst e; exact lg_lt_not h h
theorem lg_lt_n {x y : Int64} : ¬ lg_cmp x y < 0 ↔ ¬ x < y := not_congr lg_lt
theorem lg_gt_n {x y : Int64} : ¬ 0 < lg_cmp x y ↔ ¬ y < x := not_congr lg_gt
theorem lg_eq_n {x y : Int64} : ¬ lg_cmp x y = 0 ↔ ¬ x = y := not_congr lg_eq
theorem lg_ge {x y : Int64} : 0 ≤ lg_cmp x y ↔ ¬ x < y := by rw [← lg_lt]; exact (Int32.not_lt (a := lg_cmp x y) (b := 0)).symm
theorem lg_ge_n {x y : Int64} : ¬ 0 ≤ lg_cmp x y ↔ x < y := by rw [lg_ge]; exact Classical.not_not
theorem lg_le {x y : Int64} : lg_cmp x y ≤ 0 ↔ ¬ y < x := by rw [← lg_gt]; exact (Int32.not_lt (a := 0) (b := lg_cmp x y)).symm
theorem lg_le_n {x y : Int64} : ¬ lg_cmp x y ≤ 0 ↔ y < x := by rw [lg_le]; exact Classical.not_not
theorem lg_ne {x y : Int64} : ¬ lg_cmp x y = 0 ↔ ¬ x = y := lg_eq_n
theorem lg_ne_n {x y : Int64} : lg_cmp x y = 0 ↔ x = y := lg_eq
theorem i32_ne {x : Int32} {k : Int} (h : ¬ x = Int32.ofInt k) (h1 : -2147483648 ≤ k) (h2 : k < 2147483648) : x.toInt ≠ k := by
  intro e; apply h; apply Int32.toInt_inj.mp; rw [Int32.toInt_ofInt_of_le h1 h2]; exact e
theorem tsw2 {x : Int32} (h0 : ¬ x = 0) (h1 : ¬ x = 1) : x.toInt < 0 ∨ 1 < x.toInt := by
  have a0 : x.toInt ≠ 0 := i32_ne (k := 0) (fun e => h0 (e.trans (by decide))) (by decide) (by decide)
  have a1 : x.toInt ≠ 1 := i32_ne (k := 1) (fun e => h1 (e.trans (by decide))) (by decide) (by decide)
  omega
theorem tsw3 {x : Int32} (h0 : ¬ x = 0) (h1 : ¬ x = 1) (h2 : ¬ x = 2) : x.toInt < 0 ∨ 2 < x.toInt := by
  have a0 : x.toInt ≠ 0 := i32_ne (k := 0) (fun e => h0 (e.trans (by decide))) (by decide) (by decide)
  have a1 : x.toInt ≠ 1 := i32_ne (k := 1) (fun e => h1 (e.trans (by decide))) (by decide) (by decide)
  have a2 : x.toInt ≠ 2 := i32_ne (k := 2) (fun e => h2 (e.trans (by decide))) (by decide) (by decide)
  omega
theorem tsw6 {x : Int32} (h0 : ¬ x = 0) (h1 : ¬ x = 1) (h2 : ¬ x = 2) (h3 : ¬ x = 3) (h4 : ¬ x = 4) (h5 : ¬ x = 5) : x.toInt < 0 ∨ 5 < x.toInt := by
  have a0 : x.toInt ≠ 0 := i32_ne (k := 0) (fun e => h0 (e.trans (by decide))) (by decide) (by decide)
  have a1 : x.toInt ≠ 1 := i32_ne (k := 1) (fun e => h1 (e.trans (by decide))) (by decide) (by decide)
  have a2 : x.toInt ≠ 2 := i32_ne (k := 2) (fun e => h2 (e.trans (by decide))) (by decide) (by decide)
  have a3 : x.toInt ≠ 3 := i32_ne (k := 3) (fun e => h3 (e.trans (by decide))) (by decide) (by decide)
  have a4 : x.toInt ≠ 4 := i32_ne (k := 4) (fun e => h4 (e.trans (by decide))) (by decide) (by decide)
  have a5 : x.toInt ≠ 5 := i32_ne (k := 5) (fun e => h5 (e.trans (by decide))) (by decide) (by decide)
  omega
def rm0_beginAnew : Room := { frames := 2, cells := 0, slots := 0, locals := 43 }
def rm0_takeFirstOrder : Room := { frames := 1, cells := 0, slots := 0, locals := 22 }
def rm0_follow : Room := { frames := 2, cells := 0, slots := 0, locals := 42 }
def rm0_turns : Room := { frames := 0, cells := 0, slots := 0, locals := 0 }
def rm0_hasTurn : Room := { frames := 1, cells := 0, slots := 0, locals := 20 }
def rm0_whoAt : Room := { frames := 1, cells := 0, slots := 0, locals := 21 }
def rm0_whoIn : Room := { frames := 2, cells := 0, slots := 0, locals := 42 }
def rm0_placeOf : Room := { frames := 2, cells := 0, slots := 0, locals := 42 }
def rm0_exchange : Room := { frames := 2, cells := 0, slots := 0, locals := 42 }
def rm0_firstWater : Room := { frames := 0, cells := 0, slots := 0, locals := 0 }
def rm0_waterBehind : Room := { frames := 1, cells := 0, slots := 0, locals := 20 }
def rm0_takeNextOrder : Room := { frames := 3, cells := 0, slots := 0, locals := 65 }
def rm0_changesFrom : Room := { frames := 2, cells := 0, slots := 0, locals := 42 }
def rm1_begin : Room := { frames := 1, cells := 0, slots := 0, locals := 20 }
def rm1_speak : Room := { frames := 3, cells := 0, slots := 0, locals := 63 }
def rm1_goFreely : Room := { frames := 5, cells := 0, slots := 0, locals := 109 }
def rm1_goForced : Room := { frames := 4, cells := 0, slots := 0, locals := 86 }
def rm1_saidIn : Room := { frames := 1, cells := 0, slots := 0, locals := 21 }
def rm1_waterIn : Room := { frames := 1, cells := 0, slots := 0, locals := 21 }
def rm1_hasSaid : Room := { frames := 3, cells := 0, slots := 0, locals := 63 }
def rm1_runAwayBy : Room := { frames := 3, cells := 0, slots := 0, locals := 63 }
def rm2_clear : Room := { frames := 0, cells := 0, slots := 0, locals := 0 }
def rm2_note : Room := { frames := 1, cells := 0, slots := 0, locals := 22 }
def rm2_close : Room := { frames := 1, cells := 0, slots := 0, locals := 22 }
def rm2_compare : Room := { frames := 5, cells := 0, slots := 0, locals := 109 }
def rm2_goBy : Room := { frames := 4, cells := 0, slots := 0, locals := 86 }
def rm2_fits : Room := { frames := 1, cells := 0, slots := 0, locals := 21 }
def rm3_forget : Room := { frames := 0, cells := 0, slots := 0, locals := 0 }
def rm3_seek : Room := { frames := 6, cells := 0, slots := 0, locals := 143 }
def rm3_noteWords : Room := { frames := 3, cells := 0, slots := 0, locals := 63 }
def rm3_packedOrder : Room := { frames := 2, cells := 0, slots := 0, locals := 42 }
def rm3_isFound : Room := { frames := 2, cells := 0, slots := 0, locals := 43 }
def rm3_changesFor : Room := { frames := 1, cells := 0, slots := 0, locals := 21 }
def rm3_whoFor : Room := { frames := 1, cells := 0, slots := 0, locals := 21 }
def rm4_begin : Room := { frames := 0, cells := 0, slots := 0, locals := 0 }
def rm4_addSpeaker : Room := { frames := 1, cells := 0, slots := 0, locals := 22 }
def rm4_addWord : Room := { frames := 2, cells := 0, slots := 0, locals := 42 }
def rm4_become : Room := { frames := 3, cells := 0, slots := 0, locals := 68 }
def rm4_gainOf : Room := { frames := 1, cells := 0, slots := 0, locals := 21 }
def rm4_has : Room := { frames := 0, cells := 0, slots := 0, locals := 0 }
def rm4_hasWord : Room := { frames := 2, cells := 0, slots := 0, locals := 42 }
def rm4_placeOfWord : Room := { frames := 0, cells := 0, slots := 0, locals := 0 }
def rm4_kindOf : Room := { frames := 1, cells := 0, slots := 0, locals := 21 }
def rm4_wordsOf : Room := { frames := 1, cells := 0, slots := 0, locals := 21 }
def rm4_lengthOf : Room := { frames := 1, cells := 0, slots := 0, locals := 21 }
def rm4_ownOf : Room := { frames := 1, cells := 0, slots := 0, locals := 21 }
def rm4_othersOf : Room := { frames := 1, cells := 0, slots := 0, locals := 21 }
def rm4_gainBy : Room := { frames := 1, cells := 0, slots := 0, locals := 21 }
def rm4_longestWithin : Room := { frames := 2, cells := 0, slots := 0, locals := 43 }
def rm5_makeForEach : Room := { frames := 5, cells := 0, slots := 0, locals := 123 }
def rm5_makeForFreeDay : Room := { frames := 5, cells := 0, slots := 0, locals := 123 }
def rm5_makeForAll : Room := { frames := 5, cells := 0, slots := 0, locals := 123 }
def rm5_beginMaking : Room := { frames := 1, cells := 0, slots := 0, locals := 20 }
def rm5_openWhatIsReached : Room := { frames := 4, cells := 0, slots := 0, locals := 88 }
def rm5_openBehind : Room := { frames := 3, cells := 0, slots := 0, locals := 63 }
def rm5_openState : Room := { frames := 1, cells := 0, slots := 0, locals := 22 }
def rm5_settleAll : Room := { frames := 4, cells := 0, slots := 0, locals := 100 }
def rm5_settle : Room := { frames := 3, cells := 0, slots := 0, locals := 63 }
def rm5_isRather : Room := { frames := 0, cells := 0, slots := 0, locals := 0 }
def rm5_worthsFrom : Room := { frames := 1, cells := 0, slots := 0, locals := 21 }
def rm5_wordAt : Room := { frames := 1, cells := 0, slots := 0, locals := 21 }
def rm5_stateOf : Room := { frames := 0, cells := 0, slots := 0, locals := 0 }
def rm6_firstFault : Room := { frames := 7, cells := 0, slots := 0, locals := 155 }
def rm6_readJar : Room := { frames := 4, cells := 0, slots := 0, locals := 89 }
def rm6_readSpeakers : Room := { frames := 6, cells := 0, slots := 0, locals := 134 }
def rm6_readSpeaker : Room := { frames := 5, cells := 0, slots := 0, locals := 112 }
def rm6_kindOfSign : Room := { frames := 3, cells := 0, slots := 0, locals := 64 }
def rm6_readWord : Room := { frames := 4, cells := 0, slots := 0, locals := 89 }
def rm6_readNumber : Room := { frames := 3, cells := 0, slots := 0, locals := 64 }
def rm6_readDigit : Room := { frames := 2, cells := 0, slots := 0, locals := 43 }
def rm6_readSign : Room := { frames := 3, cells := 0, slots := 0, locals := 64 }
def rm6_isNext : Room := { frames := 2, cells := 0, slots := 0, locals := 43 }
def rm7_isSheet : Room := { frames := 0, cells := 0, slots := 0, locals := 0 }
def rm7_isLane : Room := { frames := 0, cells := 0, slots := 0, locals := 0 }
def rm7_laneOf : Room := { frames := 1, cells := 0, slots := 0, locals := 21 }
def rm7_sizeOf : Room := { frames := 1, cells := 0, slots := 0, locals := 21 }
def rm7_isEmpty : Room := { frames := 2, cells := 0, slots := 0, locals := 42 }
def rm7_valueAt : Room := { frames := 1, cells := 0, slots := 0, locals := 21 }
def rm7_renew : Room := { frames := 1, cells := 0, slots := 0, locals := 22 }
def rm7_drop : Room := { frames := 3, cells := 0, slots := 0, locals := 63 }
def rm7_store : Room := { frames := 2, cells := 0, slots := 0, locals := 42 }
def rm7_cutTo : Room := { frames := 0, cells := 0, slots := 0, locals := 0 }
def rm7_move : Room := { frames := 2, cells := 0, slots := 0, locals := 43 }
def rm7_hasPart : Room := { frames := 2, cells := 0, slots := 0, locals := 42 }
def rm7_rowRefusal : Room := { frames := 3, cells := 0, slots := 0, locals := 63 }
def rm7_partRefusal : Room := { frames := 4, cells := 0, slots := 0, locals := 85 }
def rm8_at : Room := { frames := 0, cells := 0, slots := 0, locals := 0 }
def rm8_set : Room := { frames := 0, cells := 0, slots := 0, locals := 0 }
def rm8_longAt : Room := { frames := 0, cells := 0, slots := 0, locals := 0 }
def rm8_setLong : Room := { frames := 0, cells := 0, slots := 0, locals := 0 }
def rm8_worthIn : Room := { frames := 0, cells := 0, slots := 0, locals := 0 }
def rm8_worthToAll : Room := { frames := 1, cells := 0, slots := 0, locals := 22 }
def rm8_council : Room := { frames := 8, cells := 0, slots := 0, locals := 178 }
def rm8_ofSpeaker : Room := { frames := 3, cells := 0, slots := 0, locals := 64 }
def rm8_ofWord : Room := { frames := 3, cells := 0, slots := 0, locals := 64 }
def rm8_law : Room := { frames := 2, cells := 0, slots := 0, locals := 40 }
def rm8_swap : Room := { frames := 3, cells := 0, slots := 0, locals := 65 }
def rm8_forgetWhatWas : Room := { frames := 1, cells := 0, slots := 0, locals := 20 }
def rm8_judge : Room := { frames := 6, cells := 0, slots := 0, locals := 136 }
def rm8_worthOf : Room := { frames := 6, cells := 0, slots := 0, locals := 136 }
def rm8_hear : Room := { frames := 5, cells := 0, slots := 0, locals := 110 }
def rm8_areWords : Room := { frames := 3, cells := 0, slots := 0, locals := 64 }
def rm8_choice : Room := { frames := 7, cells := 0, slots := 0, locals := 165 }
def rm8_says : Room := { frames := 8, cells := 0, slots := 0, locals := 185 }
def rm8_water : Room := { frames := 8, cells := 0, slots := 0, locals := 185 }
def rm8_worth : Room := { frames := 8, cells := 0, slots := 0, locals := 185 }
def rm8_together : Room := { frames := 6, cells := 0, slots := 0, locals := 143 }
def rm8_planAhead : Room := { frames := 6, cells := 0, slots := 0, locals := 145 }
def rm8_goFreely : Room := { frames := 7, cells := 0, slots := 0, locals := 165 }
def rm8_owed : Room := { frames := 7, cells := 0, slots := 0, locals := 165 }
def rm8_bargain : Room := { frames := 7, cells := 0, slots := 0, locals := 165 }
def rm8_areTwo : Room := { frames := 1, cells := 0, slots := 0, locals := 21 }
def rm8_motion : Room := { frames := 7, cells := 0, slots := 0, locals := 165 }
def rm8_dry : Room := { frames := 7, cells := 0, slots := 0, locals := 165 }
def rm8_canSilence : Room := { frames := 5, cells := 0, slots := 0, locals := 109 }
def rm8_day : Room := { frames := 5, cells := 0, slots := 0, locals := 110 }
def rm8_back : Room := { frames := 0, cells := 0, slots := 0, locals := 0 }
def rm8_guess : Room := { frames := 6, cells := 0, slots := 0, locals := 134 }
def rm8_byLaw : Room := { frames := 8, cells := 0, slots := 0, locals := 188 }
def rm8_bestLaw : Room := { frames := 7, cells := 0, slots := 0, locals := 164 }
def rm8_worthUnder : Room := { frames := 6, cells := 0, slots := 0, locals := 143 }
def rm8_share : Room := { frames := 8, cells := 0, slots := 0, locals := 185 }
def rm8_commonPart : Room := { frames := 0, cells := 0, slots := 0, locals := 0 }
def rm8_sheet : Room := { frames := 2, cells := 0, slots := 0, locals := 46 }
def rm8_lose : Room := { frames := 4, cells := 0, slots := 0, locals := 85 }
def rm8_put : Room := { frames := 3, cells := 0, slots := 0, locals := 65 }
def rm8_cell : Room := { frames := 4, cells := 0, slots := 0, locals := 85 }
def rm8_copy : Room := { frames := 3, cells := 0, slots := 0, locals := 71 }
def rm8_tell : Room := { frames := 5, cells := 0, slots := 0, locals := 106 }
def rm8_tellPlain : Room := { frames := 2, cells := 0, slots := 0, locals := 42 }
def rm8_tellThrifty : Room := { frames := 3, cells := 0, slots := 0, locals := 63 }
def rm8_tellOld : Room := { frames := 4, cells := 0, slots := 0, locals := 84 }
def rm8_call : Room := { frames := 2, cells := 0, slots := 0, locals := 42 }
def rm8_leaveTrace : Room := { frames := 0, cells := 0, slots := 0, locals := 0 }
def rm8_as : Room := { frames := 2, cells := 0, slots := 0, locals := 42 }
def rm8_trace : Room := { frames := 0, cells := 0, slots := 0, locals := 0 }
def rm8_fault : Room := { frames := 0, cells := 0, slots := 0, locals := 0 }
def rm8_many : Room := { frames := 1, cells := 0, slots := 0, locals := 20 }
def rm8_told : Room := { frames := 0, cells := 0, slots := 0, locals := 0 }
def rm9_in : Room := { frames := 0, cells := 0, slots := 0, locals := 0 }
def rm9_lost : Room := { frames := 0, cells := 0, slots := 0, locals := 0 }
def rm9_greater : Room := { frames := 0, cells := 0, slots := 0, locals := 0 }
def rm9_told : Room := { frames := 0, cells := 0, slots := 0, locals := 0 }
def rm9_refused : Room := { frames := 0, cells := 0, slots := 0, locals := 0 }
def rm9_failed : Room := { frames := 0, cells := 0, slots := 0, locals := 0 }
def rm9_failedLong : Room := { frames := 1, cells := 0, slots := 0, locals := 19 }
def rm9_barred : Room := { frames := 2, cells := 0, slots := 0, locals := 45 }
def rm9_noSpeaker : Room := { frames := 1, cells := 0, slots := 0, locals := 25 }
def rm9_noWord : Room := { frames := 2, cells := 0, slots := 0, locals := 46 }
def rm9_codeAt : Room := { frames := 0, cells := 0, slots := 0, locals := 0 }
def rm9_takes : Room := { frames := 0, cells := 0, slots := 0, locals := 0 }
def rm9_figureAt : Room := { frames := 1, cells := 0, slots := 0, locals := 25 }
def rm9_figure : Room := { frames := 2, cells := 0, slots := 0, locals := 49 }
def rm9_two : Room := { frames := 2, cells := 0, slots := 0, locals := 49 }
def rm9_readsWord : Room := { frames := 3, cells := 0, slots := 0, locals := 75 }
def rm9_readsSpeaker : Room := { frames := 4, cells := 0, slots := 0, locals := 99 }
def rm9_readsCouncil : Room := { frames := 5, cells := 0, slots := 0, locals := 124 }
def rm9_council : Room := { frames := 6, cells := 0, slots := 0, locals := 147 }
def rm9_placeOf : Room := { frames := 0, cells := 0, slots := 0, locals := 0 }
def rm9_ofSpeaker : Room := { frames := 2, cells := 0, slots := 0, locals := 46 }
def rm9_ofWord : Room := { frames := 3, cells := 0, slots := 0, locals := 68 }
def rm9_law : Room := { frames := 1, cells := 0, slots := 0, locals := 25 }
def rm9_swap : Room := { frames := 2, cells := 0, slots := 0, locals := 46 }
def rm9_turnsNow : Room := { frames := 0, cells := 0, slots := 0, locals := 0 }
def rm9_speakerOf : Room := { frames := 0, cells := 0, slots := 0, locals := 0 }
def rm9_startWater : Room := { frames := 0, cells := 0, slots := 0, locals := 0 }
def rm9_behind : Room := { frames := 1, cells := 0, slots := 0, locals := 21 }
def rm9_leftBy : Room := { frames := 0, cells := 0, slots := 0, locals := 0 }
def rm9_isHeard : Room := { frames := 0, cells := 0, slots := 0, locals := 0 }
def rm9_worthFor : Room := { frames := 0, cells := 0, slots := 0, locals := 0 }
def rm9_beginDay : Room := { frames := 1, cells := 0, slots := 0, locals := 20 }
def rm9_goTurn : Room := { frames := 2, cells := 0, slots := 0, locals := 44 }
def rm9_areWords : Room := { frames := 3, cells := 0, slots := 0, locals := 68 }
def rm9_goTold : Room := { frames := 4, cells := 0, slots := 0, locals := 92 }
def rm9_judge : Room := { frames := 5, cells := 0, slots := 0, locals := 119 }
def rm9_worthOf : Room := { frames := 5, cells := 0, slots := 0, locals := 119 }
def rm9_valueOf : Room := { frames := 0, cells := 0, slots := 0, locals := 0 }
def rm9_valueBy : Room := { frames := 2, cells := 0, slots := 0, locals := 44 }
def rm9_lengthAs : Room := { frames := 0, cells := 0, slots := 0, locals := 0 }
def rm9_bestIn : Room := { frames := 3, cells := 0, slots := 0, locals := 69 }
def rm9_layChoices : Room := { frames := 4, cells := 0, slots := 0, locals := 98 }
def rm9_goDay : Room := { frames := 3, cells := 0, slots := 0, locals := 70 }
def rm9_goFree : Room := { frames := 5, cells := 0, slots := 0, locals := 123 }
def rm9_noTurn : Room := { frames := 1, cells := 0, slots := 0, locals := 25 }
def rm9_choice : Room := { frames := 5, cells := 0, slots := 0, locals := 123 }
def rm9_says : Room := { frames := 6, cells := 0, slots := 0, locals := 143 }
def rm9_water : Room := { frames := 6, cells := 0, slots := 0, locals := 143 }
def rm9_worth : Room := { frames := 6, cells := 0, slots := 0, locals := 143 }
def rm9_worthToAll : Room := { frames := 0, cells := 0, slots := 0, locals := 0 }
def rm9_goRow : Room := { frames := 3, cells := 0, slots := 0, locals := 70 }
def rm9_together : Room := { frames := 4, cells := 0, slots := 0, locals := 96 }
def rm9_longestBy : Room := { frames := 1, cells := 0, slots := 0, locals := 23 }
def rm9_owed : Room := { frames := 6, cells := 0, slots := 0, locals := 143 }
def rm9_bargain : Room := { frames := 6, cells := 0, slots := 0, locals := 143 }
def rm9_isSaid : Room := { frames := 1, cells := 0, slots := 0, locals := 21 }
def rm9_layOrder : Room := { frames := 0, cells := 0, slots := 0, locals := 0 }
def rm9_otherPlaces : Room := { frames := 0, cells := 0, slots := 0, locals := 0 }
def rm9_motion : Room := { frames := 6, cells := 0, slots := 0, locals := 143 }
def rm9_dry : Room := { frames := 5, cells := 0, slots := 0, locals := 123 }
def rm9_day : Room := { frames := 4, cells := 0, slots := 0, locals := 92 }
def rm9_back : Room := { frames := 1, cells := 0, slots := 0, locals := 25 }
def rm9_endsSo : Room := { frames := 3, cells := 0, slots := 0, locals := 70 }
def rm9_guess : Room := { frames := 4, cells := 0, slots := 0, locals := 93 }
def rm9_worthBy : Room := { frames := 6, cells := 0, slots := 0, locals := 143 }
def rm9_byLaw : Room := { frames := 7, cells := 0, slots := 0, locals := 165 }
def rm9_share : Room := { frames := 6, cells := 0, slots := 0, locals := 143 }
def rm9_noSheet : Room := { frames := 1, cells := 0, slots := 0, locals := 25 }
def rm9_sheet : Room := { frames := 2, cells := 0, slots := 0, locals := 45 }
def rm9_lose : Room := { frames := 2, cells := 0, slots := 0, locals := 45 }
def rm9_noCell : Room := { frames := 1, cells := 0, slots := 0, locals := 25 }
def rm9_put : Room := { frames := 2, cells := 0, slots := 0, locals := 47 }
def rm9_cell : Room := { frames := 2, cells := 0, slots := 0, locals := 47 }
def rm9_isBeyond : Room := { frames := 0, cells := 0, slots := 0, locals := 0 }
def rm9_copy : Room := { frames := 2, cells := 0, slots := 0, locals := 45 }
def rm9_traced : Room := { frames := 0, cells := 0, slots := 0, locals := 0 }
def rm9_tell : Room := { frames := 2, cells := 0, slots := 0, locals := 46 }
def rm9_call : Room := { frames := 2, cells := 0, slots := 0, locals := 46 }
def rm9_as : Room := { frames := 2, cells := 0, slots := 0, locals := 46 }
def rm9_trace : Room := { frames := 0, cells := 0, slots := 0, locals := 0 }
def rm9_fault : Room := { frames := 0, cells := 0, slots := 0, locals := 0 }
def rm9_many : Room := { frames := 1, cells := 0, slots := 0, locals := 20 }
