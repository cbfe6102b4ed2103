/-! pure facts about the functions: rows, small methods -/
theorem bd_s {α β : Type} (y : α) (f : α → Option β) : bd (some y) f = f y := rfl
theorem bd_eq {α β : Type} {o : Option α} {y : α} (h : o = some y) (f : α → Option β) : bd o f = f y := by rw [h]; rfl
theorem tp0 : (0 : Int32).toInt = 0 := rfl
theorem tp1 : (1 : Int32).toInt = 1 := rfl
theorem tp2 : (2 : Int32).toInt = 2 := rfl
theorem tp3 : (3 : Int32).toInt = 3 := rfl
theorem tp4 : (4 : Int32).toInt = 4 := rfl
theorem tp5 : (5 : Int32).toInt = 5 := rfl
theorem tp6 : (6 : Int32).toInt = 6 := rfl
theorem tp7 : (7 : Int32).toInt = 7 := rfl
theorem tp8 : (8 : Int32).toInt = 8 := rfl
theorem tp9 : (9 : Int32).toInt = 9 := rfl
theorem tp10 : (10 : Int32).toInt = 10 := rfl
theorem tp14 : (14 : Int32).toInt = 14 := rfl
theorem tp15 : (15 : Int32).toInt = 15 := rfl
theorem tp18 : (18 : Int32).toInt = 18 := rfl
theorem tp30 : (30 : Int32).toInt = 30 := rfl
theorem tp31 : (31 : Int32).toInt = 31 := rfl
theorem tp36 : (36 : Int32).toInt = 36 := rfl
theorem tp48 : (48 : Int32).toInt = 48 := rfl
theorem tp57 : (57 : Int32).toInt = 57 := rfl
theorem tp59 : (59 : Int32).toInt = 59 := rfl
theorem tp60 : (60 : Int32).toInt = 60 := rfl
theorem tp90 : (90 : Int32).toInt = 90 := rfl
theorem tp98 : (98 : Int32).toInt = 98 := rfl
theorem tp99 : (99 : Int32).toInt = 99 := rfl
theorem tp100 : (100 : Int32).toInt = 100 := rfl
theorem tp106 : (106 : Int32).toInt = 106 := rfl
theorem tp108 : (108 : Int32).toInt = 108 := rfl
theorem tp111 : (111 : Int32).toInt = 111 := rfl
theorem tp112 : (112 : Int32).toInt = 112 := rfl
theorem tp116 : (116 : Int32).toInt = 116 := rfl
theorem tp119 : (119 : Int32).toInt = 119 := rfl
theorem tp400 : (400 : Int32).toInt = 400 := rfl
theorem tp500 : (500 : Int32).toInt = 500 := rfl
theorem tp600 : (600 : Int32).toInt = 600 := rfl
theorem tn1 : (-1 : Int32).toInt = -1 := rfl
theorem tn2 : (-2 : Int32).toInt = -2 := rfl
theorem tn3 : (-3 : Int32).toInt = -3 := rfl
theorem tn4 : (-4 : Int32).toInt = -4 := rfl
theorem tn7 : (-7 : Int32).toInt = -7 := rfl
theorem tn9 : (-9 : Int32).toInt = -9 := rfl
theorem tn10 : (-10 : Int32).toInt = -10 := rfl
theorem tn11 : (-11 : Int32).toInt = -11 := rfl
theorem tn12 : (-12 : Int32).toInt = -12 := rfl
theorem tn13 : (-13 : Int32).toInt = -13 := rfl
theorem tn14 : (-14 : Int32).toInt = -14 := rfl
theorem tn100 : (-100 : Int32).toInt = -100 := rfl
theorem at_in {k n i : Nat} {σ : HS} (h : i < n) (hn : n ≤ 4000) : f8_at k n (nI i) σ = some (σ.1 k i, σ) := by
  unfold f8_at
  rw [if_neg (nI_pos (by omega)), if_neg (nI_ge h (by omega)), if_neg (nI_in h (by omega)), nI_clamp (by omega)]
theorem at_out {k n i : Nat} {σ : HS} (h : n ≤ i) (hn : i ≤ 100000) : f8_at k n (nI i) σ = some (0, σ) := by
  unfold f8_at f8_at_20
  rw [if_neg (nI_pos (by omega)), if_pos (nI_le h (by omega))]
theorem set_in {k n i : Nat} {v : Int32} {σ : HS} (h : i < n) (hn : n ≤ 4000) : f8_set k n (nI i) v σ = some (uI σ k i v) := by
  unfold f8_set
  rw [if_neg (nI_pos (by omega)), if_neg (nI_ge h (by omega)), if_neg (nI_in h (by omega)), nI_clamp (by omega)]
theorem lat_in {k n i : Nat} {σ : HS} (h : i < n) (hn : n ≤ 4000) : f8_longAt k n (nI i) σ = some (σ.2 k i, σ) := by
  unfold f8_longAt
  rw [if_neg (nI_pos (by omega)), if_neg (nI_ge h (by omega)), if_neg (nI_in h (by omega)), nI_clamp (by omega)]
theorem lset_in {k n i : Nat} {v : Int64} {σ : HS} (h : i < n) (hn : n ≤ 4000) : f8_setLong k n (nI i) v σ = some (uL σ k i v) := by
  unfold f8_setLong
  rw [if_neg (nI_pos (by omega)), if_neg (nI_ge h (by omega)), if_neg (nI_in h (by omega)), nI_clamp (by omega)]
/-- a place of a row of the model's, known to be inside -/
theorem ix_in {i n : Nat} {α : Type} {o : Option α} (h : i < n) (hn : n ≤ 4000) : (if (nI i : Int32) < 0 ∨ n ≤ (nI i).toNatClampNeg then none else o) = o := if_neg (nI_in h (by omega))
/-- an int is out of 0 .. N - 1, or such a number -/
theorem fa_rng (x : Int32) : -2147483648 ≤ x.toInt ∧ x.toInt < 2147483648 := ⟨x.le_toInt, x.toInt_lt⟩
theorem arg_c (x : Int32) (N : Nat) (hN : N < 2147483648) : (x.toInt < 0 ∨ (N : Int) ≤ x.toInt) ∨ ∃ k : Nat, k < N ∧ x = nI k := by
  rcases pk_ix x (n := N) hN with h | h | h
  · left; left; rw [Int32.lt_iff_toInt_lt] at h; exact h
  · left; right; rw [Int32.le_iff_toInt_le, nI_toInt hN] at h; exact h
  · right; exact h
theorem arg_n (x : Int32) : x.toInt < 0 ∨ ∃ k : Nat, k < 2147483648 ∧ x = nI k := by
  rcases arg_c x 2147483647 (by decide) with h | ⟨k, hk, e⟩
  · rcases h with h | h
    · exact Or.inl h
    · right
      refine ⟨x.toInt.toNat, ?_, ?_⟩
      · have := (fa_rng x).2; omega
      · apply Int32.toInt_inj.mp
        have := (fa_rng x).2
        rw [nI_toInt (by omega)]; omega
  · exact Or.inr ⟨k, by omega, e⟩
theorem told_0 {x : Int32} {σ : HS} (h : -11 < x.toInt ∨ x.toInt < -14) : f8_told x σ = some (x, uI σ 0 13 0) := by
  unfold f8_told f8_told_16 f8_told_17 f8_told_31
  rcases h with h | h
  · rw [if_pos (by simp (disch := omega) only [Int32.lt_iff_toInt_lt, Int32.le_iff_toInt_le, ← Int32.toInt_inj, nI_toInt, tp0, tp1, tp2, tp3, tp4, tp5, tp6, tp7, tp8, tp9, tp10, tp14, tp15, tp18, tp30, tp31, tp36, tp48, tp57, tp59, tp60, tp90, tp98, tp99, tp100, tp106, tp108, tp111, tp112, tp116, tp119, tp400, tp500, tp600, tn1, tn2, tn3, tn4, tn7, tn9, tn10, tn11, tn12, tn13, tn14, tn100]; omega)]; rfl
  · rw [if_neg (by simp (disch := omega) only [Int32.lt_iff_toInt_lt, Int32.le_iff_toInt_le, ← Int32.toInt_inj, nI_toInt, tp0, tp1, tp2, tp3, tp4, tp5, tp6, tp7, tp8, tp9, tp10, tp14, tp15, tp18, tp30, tp31, tp36, tp48, tp57, tp59, tp60, tp90, tp98, tp99, tp100, tp106, tp108, tp111, tp112, tp116, tp119, tp400, tp500, tp600, tn1, tn2, tn3, tn4, tn7, tn9, tn10, tn11, tn12, tn13, tn14, tn100]; omega), if_pos (by simp (disch := omega) only [Int32.lt_iff_toInt_lt, Int32.le_iff_toInt_le, ← Int32.toInt_inj, nI_toInt, tp0, tp1, tp2, tp3, tp4, tp5, tp6, tp7, tp8, tp9, tp10, tp14, tp15, tp18, tp30, tp31, tp36, tp48, tp57, tp59, tp60, tp90, tp98, tp99, tp100, tp106, tp108, tp111, tp112, tp116, tp119, tp400, tp500, tp600, tn1, tn2, tn3, tn4, tn7, tn9, tn10, tn11, tn12, tn13, tn14, tn100]; omega)]; rfl
theorem told_1 {σ : HS} : f8_told (-11) σ = some (-11, uI σ 0 13 1) := rfl
theorem told_2 {σ : HS} : f8_told (-12) σ = some (-12, uI σ 0 13 2) := rfl
theorem told_3 {σ : HS} : f8_told (-13) σ = some (-13, uI σ 0 13 3) := rfl
theorem told_4 {σ : HS} : f8_told (-14) σ = some (-14, uI σ 0 13 4) := rfl
theorem ixc {i n : Nat} {α : Type} {o : Option α} (h : i < n) (hn : n ≤ 4000) : (if (nI i : Int32) < 0 ∨ n ≤ i then none else o) = o := if_neg (by rintro (z | z); exact nI_pos (by omega) z; omega)
