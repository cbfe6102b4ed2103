/-! the sheets -/
theorem m0e : (-1 : Int32).toInt = -1 := rfl
theorem isSheet_y {k : Nat} {σ : HS} (h : k < 4) : f7_isSheet (nI k) σ = some (1, σ) := by
  unfold f7_isSheet
  rw [if_neg (nI_pos (by omega)), if_neg (show ¬ (4 : Int32) ≤ nI k from nI_ge (b := 4) h (by omega))]
theorem isSheet_n {x : Int32} {σ : HS} (h : x.toInt < 0 ∨ (4 : Int) ≤ x.toInt) : f7_isSheet x σ = some (0, σ) := by
  unfold f7_isSheet f7_isSheet_13
  by_cases c : x < 0
  · rw [if_pos c]
  · rw [if_neg c, if_pos]
    rw [Int32.lt_iff_toInt_lt] at c
    have e0 : (0 : Int32).toInt = 0 := rfl
    rw [Int32.le_iff_toInt_le]; show (4 : Int) ≤ _; omega
theorem isLane_y {k : Nat} {σ : HS} (h : k < 3) : f7_isLane (nI k) σ = some (1, σ) := by
  unfold f7_isLane
  rw [if_neg (nI_pos (by omega)), if_neg (show ¬ (3 : Int32) ≤ nI k from nI_ge (b := 3) h (by omega))]
theorem isLane_n {x : Int32} {σ : HS} (h : x.toInt < 0 ∨ (3 : Int) ≤ x.toInt) : f7_isLane x σ = some (0, σ) := by
  unfold f7_isLane f7_isLane_13
  by_cases c : x < 0
  · rw [if_pos c]
  · rw [if_neg c, if_pos]
    rw [Int32.lt_iff_toInt_lt] at c
    have e0 : (0 : Int32).toInt = 0 := rfl
    rw [Int32.le_iff_toInt_le]; show (3 : Int) ≤ _; omega
theorem noSheet_y {k : Nat} {σ : HS} (h : k < 4) : f9_noSheet (nI k) σ = some (0, σ) := by
  unfold f9_noSheet
  rw [in_y (by rw [w64, nI_toInt (by omega)]; show (0 : Int) ≤ _; omega) (by rw [w64, nI_toInt (by omega)]; show _ ≤ (3 : Int); omega), bd_s, if_neg n10]
theorem noSheet_n {x : Int32} {σ : HS} (h : x.toInt < 0 ∨ (4 : Int) ≤ x.toInt) : f9_noSheet x σ = some (1, σ) := by
  unfold f9_noSheet
  rw [in_n (by rw [w64]; show _ < (0 : Int) ∨ (3 : Int) < _; omega), bd_s, if_pos rfl]
theorem inLane_y {k : Nat} {σ : HS} (h : k < 3) : f9_in (nI k).toInt64 0 2 σ = some (1, σ) := in_y (by rw [w64, nI_toInt (by omega)]; show (0 : Int) ≤ _; omega) (by rw [w64, nI_toInt (by omega)]; show _ ≤ (2 : Int); omega)
theorem inLane_n {x : Int32} {σ : HS} (h : x.toInt < 0 ∨ (3 : Int) ≤ x.toInt) : f9_in x.toInt64 0 2 σ = some (0, σ) := in_n (by rw [w64]; show _ < (0 : Int) ∨ (2 : Int) < _; omega)
theorem laneOf_e {k : Nat} {σ : HS} (h : k < 4) : f7_laneOf (nI k) σ = some (σ.1 2 k, σ) := by
  unfold f7_laneOf; rw [at_in h (by omega), bd_s]
theorem sizeOf_e {k : Nat} {σ : HS} (h : k < 4) : f7_sizeOf (nI k) σ = some (σ.1 3 k, σ) := by
  unfold f7_sizeOf; rw [at_in h (by omega), bd_s]
theorem nI_m1 {a : Nat} (h : a < 1000000) : ¬ nI a = -1 := fun e => by
  have := congrArg Int32.toInt e
  rw [nI_toInt (by omega), m0e] at this; omega
theorem isEmpty_y {k : Nat} {σ : HS} (h : k < 4) (e : σ.1 2 k = -1) : f7_isEmpty (nI k) σ = some (1, σ) := by
  unfold f7_isEmpty; rw [laneOf_e h, bd_s, if_pos e]
theorem isEmpty_n {k a : Nat} {σ : HS} (h : k < 4) (e : σ.1 2 k = nI a) (ha : a ≤ 2) : f7_isEmpty (nI k) σ = some (0, σ) := by
  unfold f7_isEmpty; rw [laneOf_e h, bd_s, if_neg (by rw [e]; exact nI_m1 (by omega))]
theorem hasPart_y {k s i n : Nat} {σ : HS} (h : k < 4) (e : σ.1 3 k = nI s) (hs : s ≤ 100) (hi : i + n ≤ s) : f7_hasPart (nI k) (nI i) (nI n) σ = some (1, σ) := by
  unfold f7_hasPart
  rw [if_neg (nI_pos (by omega)), sizeOf_e h, bd_s, e, if_neg (nI_nlt (by omega) (by omega)), show (nI s, σ).2 = σ from rfl, sizeOf_e h, bd_s, if_neg]
  show ¬ σ.1 3 k - nI i < nI n
  rw [e, pk_sub (by omega)]; exact nI_nlt (by omega) (by omega)
theorem hasPart_n {k s : Nat} {i n : Int32} {σ : HS} (h : k < 4) (e : σ.1 3 k = nI s) (hs : s ≤ 100) (hn : 0 ≤ n.toInt) (hi : i.toInt < 0 ∨ (s : Int) < i.toInt + n.toInt) : f7_hasPart (nI k) i n σ = some (0, σ) := by
  unfold f7_hasPart f7_hasPart_28
  by_cases c : i < 0
  · rw [if_pos c]
  · rw [if_neg c, sizeOf_e h, bd_s, e]
    rw [Int32.lt_iff_toInt_lt] at c
    have e0 : (0 : Int32).toInt = 0 := rfl
    by_cases c2 : nI s < i
    · rw [if_pos c2]
    · rw [if_neg c2, show (nI s, σ).2 = σ from rfl, sizeOf_e h, bd_s, if_pos]
      show σ.1 3 k - i < n
      rw [Int32.lt_iff_toInt_lt, nI_toInt (by omega)] at c2
      rw [e, Int32.lt_iff_toInt_lt, sub32 _ _ (by rw [nI_toInt (by omega)]; omega) (by rw [nI_toInt (by omega)]; omega), nI_toInt (by omega)]; omega
theorem beyond_n {s i n : Nat} {σ : HS} (hs : s ≤ 100) (hi : i + n ≤ s) : f9_isBeyond (nI i) (nI n).toInt64 (nI s) σ = some (0, σ) := by
  have z1 : (nI n).toInt64.toInt = n := by rw [w64, nI_toInt (by omega)]
  have z2 : (nI i).toInt64.toInt = i := by rw [w64, nI_toInt (by omega)]
  have z3 : (nI s).toInt64.toInt = s := by rw [w64, nI_toInt (by omega)]
  have e0 : (0 : Int64).toInt = 0 := rfl
  unfold f9_isBeyond
  rw [if_neg (nI_pos (by omega)), if_neg (by rw [Int64.lt_iff_toInt_lt]; omega), if_neg]
  rw [Int64.lt_iff_toInt_lt, add64 _ _ (by omega) (by omega)]; omega
theorem beyond_y {s : Nat} {i n : Int32} {σ : HS} (hs : s ≤ 100) (hi : i.toInt < 0 ∨ n.toInt < 0 ∨ (s : Int) < i.toInt + n.toInt) : f9_isBeyond i n.toInt64 (nI s) σ = some (1, σ) := by
  have z1 : n.toInt64.toInt = n.toInt := w64 n
  have z2 : i.toInt64.toInt = i.toInt := w64 i
  have z3 : (nI s).toInt64.toInt = s := by rw [w64, nI_toInt (by omega)]
  have e0 : (0 : Int64).toInt = 0 := rfl
  have e1 : (0 : Int32).toInt = 0 := rfl
  have := fa_rng i
  have := fa_rng n
  unfold f9_isBeyond f9_isBeyond_20
  by_cases c : i < 0
  · rw [if_pos c]
  · rw [if_neg c]
    by_cases c2 : n.toInt64 < 0
    · rw [if_pos c2]
    · rw [if_neg c2, if_pos]
      rw [Int32.lt_iff_toInt_lt] at c
      rw [Int64.lt_iff_toInt_lt] at c2
      rw [Int64.lt_iff_toInt_lt, add64 _ _ (by omega) (by omega)]; omega
/-- what a part of a sheet is refused with, on both sides -/
def PartNo (σ τ : HS) (k lane i n : Int32) : Prop := ∃ code ft : Int32, ¬ code = 0 ∧ code.toInt < 0 ∧ (∀ σ : HS, f8_told code σ = some (code, uI σ 0 13 ft)) ∧ f7_partRefusal k lane i n σ = some (code, σ) ∧ f9_barred k lane i n.toInt64 τ = some (code, uI τ 0 0 ft)
def PartYes (σ τ : HS) (k lane i n : Int32) : Prop := ∃ k' a i' n' s : Nat, k = nI k' ∧ lane = nI a ∧ i = nI i' ∧ n = nI n' ∧ k' < 4 ∧ a ≤ 2 ∧ i' + n' ≤ s ∧ s ≤ 100 ∧ f7_partRefusal k lane i n σ = some (0, σ) ∧ f9_barred k lane i n.toInt64 τ = some (0, τ) ∧ ∀ x, x < s → σ.1 4 (100 * k' + x) = τ.1 23 (100 * k' + x)
theorem part_c {σ τ : HS} (h : RepSh σ τ) (k lane i n : Int32) : PartNo σ τ k lane i n ∨ PartYes σ τ k lane i n := by
  unfold PartNo PartYes f7_partRefusal f7_rowRefusal f9_barred f9_barred_57 f9_refused f9_failed
  rcases arg_c k 4 (by omega) with hk | ⟨k', hk, rfl⟩
  · left
    refine ⟨-1, 0, by decide, by decide, fun σ => told_0 (Or.inl (by decide)), ?_, ?_⟩
    · rw [isSheet_n hk, bd_s, if_pos rfl, bd_s, if_neg (show ¬ ((-1 : Int32) = 0) by decide)]
    · rw [noSheet_n hk, bd_s, if_neg n10, bd_s]
  · rw [isSheet_y hk, bd_s, if_neg n10, noSheet_y hk, bd_s, if_pos rfl]
    rcases arg_c lane 3 (by omega) with hl | ⟨a, ha, rfl⟩
    · left
      refine ⟨-2, 0, by decide, by decide, fun σ => told_0 (Or.inl (by decide)), ?_, ?_⟩
      · rw [isLane_n hl, bd_s, if_pos rfl, bd_s, if_neg (show ¬ ((-2 : Int32) = 0) by decide)]
      · rw [inLane_n hl, bd_s, if_pos rfl, bd_s]
    · rw [isLane_y ha, bd_s, if_neg n10, inLane_y ha, bd_s, if_neg n10, ix_in hk (by omega), ix_in hk (by omega), nI_clamp (by omega)]
      rcases h k' hk with ⟨s1, s2, s3⟩ | ⟨a2, s, s1, s2, s3, s4, s5, s6, s7⟩
      · left
        refine ⟨-11, 1, by decide, by decide, fun σ => told_1, ?_, ?_⟩
        · rw [isEmpty_y hk s1, bd_s, if_neg n10, bd_s, if_neg (show ¬ ((-11 : Int32) = 0) by decide)]
        · rw [s3, if_pos (by decide), ixc hk (by omega), if_neg (by decide), bd_s]; rfl
      · rw [isEmpty_n hk s3 s1, bd_s, if_pos rfl, laneOf_e hk, bd_s, s5, if_neg (nI_pos (by omega)), s6, s3]
        by_cases ce : nI a2 = nI a
        · rw [if_pos ce, if_pos ce, bd_s, if_pos rfl, ixc hk (by omega), if_pos (nI_pos' (by omega))]
          rcases arg_n n with hn | ⟨n', hn, rfl⟩
          · left
            refine ⟨-14, 4, by decide, by decide, fun σ => told_4, ?_, ?_⟩
            · rw [if_neg]
              rw [Int32.le_iff_toInt_le]; show ¬ (0 : Int) ≤ _; omega
            · rw [if_pos (by rw [Int64.lt_iff_toInt_lt, w64]; exact hn), bd_s]; rfl
          · have e1 : ¬ (nI n').toInt64 < 0 := by rw [Int64.lt_iff_toInt_lt, w64, nI_toInt hn]; show ¬ _ < (0 : Int); omega
            rw [if_pos (nI_pos' hn), if_neg e1, ixc hk (by omega)]
            have hn2 : (nI n').toInt = n' := nI_toInt hn
            by_cases ci : i.toInt < 0 ∨ (s : Int) < i.toInt + (nI n').toInt
            · left
              refine ⟨-13, 3, by decide, by decide, fun σ => told_3, ?_, ?_⟩
              · rw [hasPart_n hk s4 s2 (by omega) ci, bd_s, if_pos rfl]
              · rw [beyond_y s2 (by omega), bd_s, if_neg n10, bd_s]; rfl
            · right
              rcases arg_n i with hi | ⟨i', hi, rfl⟩
              · omega
              · rw [nI_toInt hi] at ci
                refine ⟨k', a, i', n', s, rfl, rfl, rfl, rfl, hk, by omega, by omega, s2, ?_, ?_, s7⟩
                · rw [hasPart_y hk s4 s2 (by omega), bd_s, if_neg n10]
                · rw [beyond_n s2 (by omega), bd_s, if_pos rfl]
        · left
          refine ⟨-12, 2, by decide, by decide, fun σ => told_2, ?_, ?_⟩
          · rw [if_neg ce, bd_s, if_neg (show ¬ ((-12 : Int32) = 0) by decide)]
          · rw [ixc hk (by omega), if_neg ce, bd_s]; rfl
