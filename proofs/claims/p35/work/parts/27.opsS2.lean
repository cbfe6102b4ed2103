/-! put, cell, copy -/
theorem failed_1 (τ : HS) : f9_failed 1 τ = some (-11, uI τ 0 0 1) := rfl
theorem failed_2 (τ : HS) : f9_failed 2 τ = some (-12, uI τ 0 0 2) := rfl
theorem failed_3 (τ : HS) : f9_failed 3 τ = some (-13, uI τ 0 0 3) := rfl
theorem failed_4 (τ : HS) : f9_failed 4 τ = some (-14, uI τ 0 0 4) := rfl
theorem n1le0 : ¬ (1 : Int32) ≤ 0 := by decide
theorem n3le0 : ¬ (3 : Int32) ≤ 0 := by decide
theorem told_m1 (σ : HS) : f8_told (-1) σ = some (-1, uI σ 0 13 0) := told_0 (Or.inl (by decide))
theorem told_m2 (σ : HS) : f8_told (-2) σ = some (-2, uI σ 0 13 0) := told_0 (Or.inl (by decide))
theorem told_z (σ : HS) : f8_told 0 σ = some (0, uI σ 0 13 0) := told_0 (Or.inl (by decide))
theorem told_p1 (σ : HS) : f8_told 1 σ = some (1, uI σ 0 13 0) := told_0 (Or.inl (by decide))
theorem le00 : (0 : Int32) ≤ 0 := by decide
theorem m1lt0 : (-1 : Int32) < 0 := by decide
theorem noCell_1 {k : Nat} {τ : HS} (hk : k < 4) (e : τ.1 21 k = -1) (i : Int32) : f9_noCell (nI k) i τ = some (1, τ) := by
  unfold f9_noCell
  rw [ix_in hk (by omega), nI_clamp (by omega), e, if_neg (by decide)]
theorem noCell_0 {k s i : Nat} {τ : HS} (hk : k < 4) (e : τ.1 21 k = nI s) (hs : s ≤ 100) (hi : i < s) : f9_noCell (nI k) (nI i) τ = some (0, τ) := by
  unfold f9_noCell
  rw [ix_in hk (by omega), ix_in hk (by omega), nI_clamp (by omega), e, if_pos (nI_pos' (by omega)), in_y (by rw [w64, nI_toInt (by omega)]; show (0 : Int) ≤ _; omega) (by rw [w64, nI_toInt (by omega), i64_sub1 _ (by omega)]; omega), bd_s, if_neg n10]
theorem noCell_3 {k s : Nat} {i : Int32} {τ : HS} (hk : k < 4) (e : τ.1 21 k = nI s) (hs : s ≤ 100) (hi : i.toInt < 0 ∨ (s : Int) ≤ i.toInt) : f9_noCell (nI k) i τ = some (3, τ) := by
  unfold f9_noCell
  rw [ix_in hk (by omega), ix_in hk (by omega), nI_clamp (by omega), e, if_pos (nI_pos' (by omega)), in_n (by rw [w64, i64_sub1 _ (by omega)]; show _ < (0 : Int) ∨ _; omega), bd_s, if_pos rfl]
theorem e100 (k i : Nat) : (100 : Int32) * nI k + nI i = nI (100 * k + i) := by show nI 100 * nI k + nI i = _; rw [pk_mul, nI_add]
theorem e100' (k i : Nat) : nI k * (100 : Int32) + nI i = nI (100 * k + i) := by show nI k * nI 100 + nI i = _; rw [pk_mul, nI_add, Nat.mul_comm]
theorem op_put (j : Nat) (σ τ : HS) (a1 a2 a3 : Int32) (hI : Inv j σ τ) (hj : j < 512) : ∃ (r : Int32) (σ1 τ1 : HS), f8_put a1 a2 a3 σ = some (r, σ1) ∧ f9_put a1 a2 a3 τ = some (r, τ1) ∧ Inv (j + 1) σ1 τ1 := by
  obtain ⟨P, C, hB⟩ := hI
  obtain ⟨w, wc, rp, rc, rm, rs, rl, a8, a9, b1, b2, b3, b4⟩ := id hB
  unfold f8_put f9_put f8_put_47 f9_refused
  rcases arg_c a1 4 (by omega) with hk | ⟨k, hk, rfl⟩
  · rw [isSheet_n hk, bd_s, if_pos rfl, noSheet_n hk, bd_s, if_neg n10, told_0 (Or.inl (by decide)), bd_s, bd_s]
    exact ⟨_, _, _, rfl, rfl, P, C, (hB.flt 0).mono⟩
  · rw [isSheet_y hk, bd_s, if_neg n10, noSheet_y hk, bd_s, if_pos rfl]
    rcases rs k hk with ⟨s1, s2, s3⟩ | ⟨a, s, s1, s2, s3, s4, s5, s6, s7⟩
    · rw [isEmpty_y hk s1, bd_s, if_neg n10, noCell_1 hk s3, bd_s, if_neg n1le0, noCell_1 hk s3, bd_s, failed_1, bd_s, told_1, bd_s]
      exact ⟨_, _, _, rfl, rfl, P, C, (hB.flt 1).mono⟩
    · rw [isEmpty_n hk s3 s1, bd_s, if_pos rfl, sizeOf_e hk, bd_s, s4]
      rcases arg_c a2 s (by omega) with hi | ⟨i, hi, rfl⟩
      · rw [noCell_3 hk s5 s2 hi, bd_s, if_neg n3le0, noCell_3 hk s5 s2 hi, bd_s, failed_3, bd_s, told_3, bd_s]
        refine ⟨_, _, _, ?_, rfl, P, C, (hB.flt 3).mono⟩
        by_cases c : a2 < 0
        · rw [if_pos c]
        · rw [if_neg c, if_neg]
          rw [Int32.lt_iff_toInt_lt] at c ⊢
          have : (0 : Int32).toInt = 0 := rfl
          rw [nI_toInt (by omega)]; omega
      · rw [noCell_0 hk s5 s2 hi, bd_s, if_pos le00, if_neg (nI_pos (by omega)), if_pos (nI_lt hi (by omega)), ix_in hk (by omega), ix_in hk (by omega), nI_clamp (by omega), s6]
        unfold f7_store f7_cutTo f9_put_73 f9_refused
        rw [place_e, bd_s, laneOf_e hk, bd_s, show (nI (100 * k + i), σ).2.1 2 k = nI a from s3, e100]
        have fin : ∀ v : Int32, ∃ (r : Int32) (σ1 τ1 : HS), (bd (bd (some (v, σ)) fun r2 => bd (f8_set 4 400 (nI (100 * k + i)) r2.1 r2.2) fun r3 => some r3) fun r8 => bd (f8_told 1 r8) fun r9 => some (r9.1, r9.2)) = some (r, σ1) ∧ (if (nI (100 * k + i) : Int32) < 0 ∨ 400 ≤ (nI (100 * k + i)).toNatClampNeg then none else bd (some ((1 : Int32), uI (uI τ 23 (nI (100 * k + i)).toNatClampNeg v) 0 0 0)) fun r2 => some (r2.1, r2.2)) = some (r, τ1) ∧ Inv (j + 1) σ1 τ1 := by
          intro v
          rw [bd_s, set_in (by omega) (by omega), bd_s, bd_s, told_0 (Or.inl (by decide)), bd_s, ix_in (by omega) (by omega), nI_clamp (by omega), bd_s]
          refine ⟨_, _, _, rfl, rfl, P, C, InvB.mono (hB.sh (fun b c1 c2 c3 c4 => by rw [uI_other c1, uI_other c4]) rfl ?_ (fun b c1 c2 c3 c4 c5 => by rw [uI_other c1, uI_other c4]) ⟨?_, ?_, ?_, ?_, ?_⟩ ?_ ?_ (rs.set hk (fun y hy => ?_) (fun k2 y h1 h2 h3 => ?_) (Or.inr ⟨a, s, s1, s2, ?_, ?_, ?_, ?_, fun x hx => ?_⟩)))⟩
          · simp [uI_at]
          · simp [uI_at]
          · simp [uI_at]
          · simp [uI_at]
          · simp [uI_at]
          · simp [uI_at]
          · simp [uI_at]; exact b3
          · simp [uI_at]
          · simp [uI_at]
          · have : ¬ 100 * k2 + y = 100 * k + i := by omega
            simp [uI_at, this]
          · simp [uI_at]; exact s3
          · simp [uI_at]; exact s4
          · simp [uI_at]; exact s5
          · simp [uI_at]; exact s6
          · by_cases c : x = i
            · subst c; simp [uI_at]
            · simp [uI_at, c]; exact s7 x hx
        by_cases c0 : nI a = 0
        · rw [if_pos c0, if_pos c0]; exact fin _
        · rw [if_neg c0, if_neg c0]
          by_cases c1 : nI a = 1
          · rw [if_pos c1, if_pos c1]; exact fin _
          · rw [if_neg c1, if_neg c1]; exact fin _
theorem InvB.fltM {j : Nat} {σ τ : HS} {P : PP} {C : CC} (h : InvB j σ τ P C) (x y : Int32) : InvB j (uI σ 0 13 x) (uI (uI τ 0 0 y) 0 0 x) P C := by
  refine h.obj (fun a ha => uI_other (by omega) _ _) rfl ?_ (fun a ha => by rw [uI_other (by omega), uI_other (by omega)]) ⟨?_, ?_, ?_, ?_, ?_⟩ ?_ ?_ <;> simp [uI_at]
  exact h.2.2.2.2.2.2.2.2.2.2.2.1
theorem op_cell (j : Nat) (σ τ : HS) (a1 a2 a3 : Int32) (hI : Inv j σ τ) (hj : j < 512) : ∃ (r : Int64) (σ1 τ1 : HS), f8_cell a1 a2 a3 σ = some (r, σ1) ∧ f9_cell a1 a2 a3 τ = some (r, τ1) ∧ Inv (j + 1) σ1 τ1 := by
  obtain ⟨P, C, hB⟩ := hI
  obtain ⟨w, wc, rp, rc, rm, rs, rl, a8, a9, b1, b2, b3, b4⟩ := id hB
  have m2 : ¬ ((-2 : Int32) = 0) := by decide
  have m1 : ¬ ((-1 : Int32) = 0) := by decide
  have m11 : ¬ ((-11 : Int32) = 0) := by decide
  have m12 : ¬ ((-12 : Int32) = 0) := by decide
  have m13 : ¬ ((-13 : Int32) = 0) := by decide
  unfold f8_cell f9_cell f8_cell_32 f8_cell_36 f9_cell_24 f9_cell_53 f7_rowRefusal f9_failedLong f9_lost
  rcases arg_c a1 4 (by omega) with hk | ⟨k, hk, rfl⟩
  · rw [isSheet_n hk, bd_s, if_pos rfl, bd_s, if_neg m1, noSheet_n hk, bd_s, if_neg n10, told_m1, bd_s, if_neg m1, bd_s]
    exact ⟨_, _, _, rfl, rfl, P, C, (hB.flt 0).mono⟩
  · rw [isSheet_y hk, bd_s, if_neg n10, noSheet_y hk, bd_s, if_pos rfl]
    rcases arg_c a3 3 (by omega) with hl | ⟨b, hb, rfl⟩
    · rw [isLane_n hl, bd_s, if_pos rfl, bd_s, if_neg m2, inLane_n hl, bd_s, if_pos rfl, told_m2, bd_s, if_neg m2, bd_s]
      exact ⟨_, _, _, rfl, rfl, P, C, (hB.flt 0).mono⟩
    · rw [isLane_y hb, bd_s, if_neg n10, inLane_y hb, bd_s, if_neg n10, ix_in hk (by omega), ix_in hk (by omega), nI_clamp (by omega)]
      have t21 : (uI τ 0 0 0).1 21 = τ.1 21 := uI_other (by omega) _ _
      have t22 : (uI τ 0 0 0).1 22 = τ.1 22 := uI_other (by omega) _ _
      have t23 : (uI τ 0 0 0).1 23 = τ.1 23 := uI_other (by omega) _ _
      rcases rs k hk with ⟨s1, s2, s3⟩ | ⟨a, s, s1, s2, s3, s4, s5, s6, s7⟩
      · have n1 := noCell_1 (τ := uI τ 0 0 0) hk (by rw [t21]; exact s3) a2
        rw [isEmpty_y hk s1, bd_s, if_neg n10, bd_s, if_neg m11, told_1, bd_s, if_neg m11, t21, s3, if_pos m1lt0, n1, bd_s, if_neg n1le0, n1, bd_s, bd_s, bd_s]
        exact ⟨_, _, _, rfl, rfl, P, C, (hB.fltM 1 0).mono⟩
      · rw [isEmpty_n hk s3 s1, bd_s, if_pos rfl, laneOf_e hk, bd_s, s3, t21, s5, if_neg (nI_pos (by omega)), t22, s6]
        by_cases ce : nI a = nI b
        · rw [if_pos ce, if_pos ce, bd_s, if_pos rfl, sizeOf_e hk, bd_s, s4]
          rcases arg_c a2 s (by omega) with hi | ⟨i, hi, rfl⟩
          · have n3 := noCell_3 (τ := uI τ 0 0 0) hk (by rw [t21]; exact s5) s2 hi
            rw [n3, bd_s, if_neg n3le0, n3, bd_s, bd_s, bd_s]
            refine ⟨_, _, _, ?_, rfl, P, C, (hB.fltM 3 0).mono⟩
            have e13 : (bd (f8_told (-13) σ) fun r1 => if (r1.1 : Int32) = 0 then bd (f7_valueAt (nI k) a2 r1.2) fun r3 => some ((r3.1 : Int32).toInt64, r3.2) else some ((-9223372036854775808 : Int64), r1.2)) = some (-9223372036854775808, uI σ 0 13 3) := by
              rw [told_3, bd_s, if_neg m13]
            by_cases c : a2 < 0
            · rw [if_pos c]; exact e13
            · rw [if_neg c, if_neg]
              · exact e13
              · rw [Int32.lt_iff_toInt_lt] at c ⊢
                have : (0 : Int32).toInt = 0 := rfl
                rw [nI_toInt (by omega)]; omega
          · have n0 := noCell_0 (τ := uI τ 0 0 0) hk (by rw [t21]; exact s5) s2 hi
            rw [n0, bd_s, if_pos le00, if_neg (nI_pos (by omega)), if_pos (nI_lt hi (by omega)), told_z, bd_s, if_pos rfl, e100, ix_in (by omega) (by omega), nI_clamp (by omega)]
            unfold f7_valueAt
            rw [place_e, bd_s, at_in (by omega) (by omega), bd_s, bd_s]
            refine ⟨_, _, _, rfl, ?_, P, C, (hB.flt 0).mono⟩
            show some (((uI τ 0 0 0).1 23 (100 * k + i)).toInt64, uI τ 0 0 0) = some (((uI σ 0 13 0).1 4 (100 * k + i)).toInt64, _)
            rw [uI_other (by omega), uI_other (by omega), s7 i hi]
        · rw [if_neg ce, bd_s, if_neg m12, told_2, bd_s, if_neg m12, if_neg ce, bd_s, bd_s]
          exact ⟨_, _, _, rfl, rfl, P, C, (hB.fltM 2 0).mono⟩
/-- the class's own copy: what was there goes over -/
theorem move_spec {k o i d n : Nat} (hk : k < 4) (ho : o < 4) (h1 : i + n ≤ 100) (h2 : d + n ≤ 100) (σ0 : HS) : ∃ σ', f7_move (nI k) (nI i) (nI o) (nI d) (nI n) σ0 = some σ' ∧ (∀ b, b ≠ 4 → σ'.1 b = σ0.1 b) ∧ σ'.2 = σ0.2 ∧ ∀ y, σ'.1 4 y = if 100 * o + d ≤ y ∧ y < 100 * o + d + n then σ0.1 4 (100 * k + i + (y - (100 * o + d))) else σ0.1 4 y := by
  have inner : ∀ (z0 : Int32), (z0 = 0 ∧ d ≤ i ∨ ¬ z0 = 0 ∧ i < d) → ∃ σ', f7_move_16 (nI k) (nI i) (nI o) (nI d) (nI n) z0 (0, σ0) = some σ' ∧ (∀ b, b ≠ 4 → σ'.1 b = σ0.1 b) ∧ σ'.2 = σ0.2 ∧ ∀ y, σ'.1 4 y = if 100 * o + d ≤ y ∧ y < 100 * o + d + n then σ0.1 4 (100 * k + i + (y - (100 * o + d))) else σ0.1 4 y := by
    intro z0 hz
    unfold f7_move_16
    refine wl_fuel (body := fun k16 p => f7_move_16_b k16 (nI k) (nI i) (nI o) (nI d) (nI n) z0 p.1 p.2) (fun p : Int32 × HS => ∃ m, m ≤ n ∧ p.1 = nI m ∧ (∀ b, b ≠ 4 → p.2.1 b = σ0.1 b) ∧ p.2.2 = σ0.2 ∧ ∀ y, p.2.1 4 y = if (z0 = 0 ∧ 100 * o + d ≤ y ∧ y < 100 * o + d + m) ∨ (¬ z0 = 0 ∧ 100 * o + d + (n - m) ≤ y ∧ y < 100 * o + d + n) then σ0.1 4 (100 * k + i + (y - (100 * o + d))) else σ0.1 4 y) (fun p => 200 - p.1.toNatClampNeg) _ (0, σ0) ⟨0, by omega, rfl, fun _ _ => rfl, rfl, fun y => by rw [if_neg (by omega)]⟩ (by show 200 - _ < _; omega) ?_
    rintro kk ⟨x7, σ2⟩ ⟨m, hm, e, g1, g2, g3⟩ ih
    have e : x7 = nI m := e
    subst e
    have g1 : ∀ b, b ≠ 4 → σ2.1 b = σ0.1 b := g1
    have g2 : σ2.2 = σ0.2 := g2
    have g3 : ∀ y, σ2.1 4 y = if (z0 = 0 ∧ 100 * o + d ≤ y ∧ y < 100 * o + d + m) ∨ (¬ z0 = 0 ∧ 100 * o + d + (n - m) ≤ y ∧ y < 100 * o + d + n) then σ0.1 4 (100 * k + i + (y - (100 * o + d))) else σ0.1 4 y := g3
    show ∃ r, f7_move_16_b kk (nI k) (nI i) (nI o) (nI d) (nI n) z0 (nI m) σ2 = some r ∧ _
    unfold f7_move_16_b
    by_cases c : n ≤ m
    · rw [if_pos (nI_le c (by omega))]
      refine ⟨σ2, rfl, g1, g2, fun y => ?_⟩
      rw [g3]
      by_cases c2 : 100 * o + d ≤ y ∧ y < 100 * o + d + n
      · rw [if_pos c2, if_pos (by
          by_cases cz : z0 = 0
          · left; exact ⟨cz, by omega, by omega⟩
          · right; exact ⟨cz, by omega, by omega⟩)]
      · rw [if_neg c2, if_neg (by omega)]
    · rw [if_neg (nI_ge (by omega) (by omega)), if_neg (show ¬ (100 : Int32) ≤ nI m from nI_ge (b := 100) (by omega) (by omega))]
      have step : ∀ q : Nat, q < n → (z0 = 0 ∧ q = m ∨ ¬ z0 = 0 ∧ q = n - 1 - m) → ∃ r, f7_move_47 kk (nI k) (nI i) (nI o) (nI d) (nI n) z0 (nI m) (nI q) σ2 = some r ∧ (∀ b, b ≠ 4 → r.1 b = σ0.1 b) ∧ r.2 = σ0.2 ∧ ∀ y, r.1 4 y = if 100 * o + d ≤ y ∧ y < 100 * o + d + n then σ0.1 4 (100 * k + i + (y - (100 * o + d))) else σ0.1 4 y := by
        intro q hq hqm
        unfold f7_move_47 f7_valueAt
        rw [nI_add, nI_add, place_e, bd_s, place_e, bd_s, at_in (by omega) (by omega), bd_s, bd_s, set_in (by omega) (by omega), bd_s, nI_1, show 100 * o + (d + q) = 100 * o + d + q by omega]
        refine ih _ ⟨m + 1, by omega, rfl, fun b hb => by show (uI σ2 4 _ _).1 b = _; rw [uI_other hb]; exact g1 b hb, g2, fun y => ?_⟩ ?_
        · show (uI σ2 4 (100 * o + d + q) (σ2.1 4 (100 * k + (i + q)))).1 4 y = _
          have rd : σ2.1 4 (100 * k + (i + q)) = σ0.1 4 (100 * k + i + q) := by
            rw [g3, if_neg (by
              rintro (⟨z1, z2, z3⟩ | ⟨z1, z2, z3⟩)
              · have : q = m := by
                  rcases hqm with ⟨-, z⟩ | ⟨z, -⟩
                  · exact z
                  · exact absurd z1 z
                have : d ≤ i := by
                  rcases hz with ⟨-, z⟩ | ⟨z, -⟩
                  · exact z
                  · exact absurd z1 z
                have : k = o := by omega
                omega
              · have : q = n - 1 - m := by
                  rcases hqm with ⟨z, -⟩ | ⟨-, z⟩
                  · exact absurd z z1
                  · exact z
                have : i < d := by
                  rcases hz with ⟨z, -⟩ | ⟨-, z⟩
                  · exact absurd z z1
                  · exact z
                have : k = o := by omega
                omega), show 100 * k + (i + q) = 100 * k + i + q by omega]
          rw [uI_at, rd, g3]
          by_cases c1 : y = 100 * o + d + q
          · rw [if_pos ⟨rfl, c1⟩, if_pos (by
              rcases hqm with ⟨z, z2⟩ | ⟨z, z2⟩
              · left; exact ⟨z, by omega, by omega⟩
              · right; exact ⟨z, by omega, by omega⟩)]
            rw [c1, show 100 * o + d + q - (100 * o + d) = q by omega]
          · rw [if_neg (fun z => c1 z.2)]
            by_cases c2 : (z0 = 0 ∧ 100 * o + d ≤ y ∧ y < 100 * o + d + m) ∨ (¬ z0 = 0 ∧ 100 * o + d + (n - m) ≤ y ∧ y < 100 * o + d + n)
            · rw [if_pos c2, if_pos (by
                rcases c2 with ⟨z, z2, z3⟩ | ⟨z, z2, z3⟩
                · left; exact ⟨z, by omega, by omega⟩
                · right; exact ⟨z, by omega, by omega⟩)]
            · rw [if_neg c2, if_neg (by
                rintro (⟨z1, z2, z3⟩ | ⟨z1, z2, z3⟩)
                · have : q = m := by
                    rcases hqm with ⟨-, z⟩ | ⟨z, -⟩
                    · exact z
                    · exact absurd z1 z
                  exact c2 (Or.inl ⟨z1, by omega, by omega⟩)
                · have : q = n - 1 - m := by
                    rcases hqm with ⟨z, -⟩ | ⟨-, z⟩
                    · exact absurd z z1
                    · exact z
                  exact c2 (Or.inr ⟨z1, by omega, by omega⟩))]
        · show 200 - (nI (m + 1)).toNatClampNeg < 200 - (nI m).toNatClampNeg
          rw [nI_clamp (by omega), nI_clamp (by omega)]; omega
      by_cases cz : z0 = 0
      · rw [if_pos cz]; exact step m (by omega) (Or.inl ⟨cz, rfl⟩)
      · rw [if_neg cz, show nI n - 1 - nI m = nI (n - 1 - m) by show nI n - nI 1 - nI m = _; rw [pk_sub (by omega), pk_sub (by omega)]]
        exact step (n - 1 - m) (by omega) (Or.inr ⟨cz, rfl⟩)
  unfold f7_move f7_move_11
  by_cases c : d ≤ i
  · rw [if_pos (nI_le c (by omega))]; exact inner 0 (Or.inl ⟨rfl, c⟩)
  · rw [if_neg (nI_ge (by omega) (by omega))]; exact inner 1 (Or.inr ⟨n10, by omega⟩)
theorem e100t (k i x : Nat) : (100 : Int32) * nI k + nI i + nI x = nI (100 * k + i + x) := by rw [e100, nI_add]
/-- the model's copy -/
theorem mcopy_spec {k o i d n : Nat} (hk : k < 4) (ho : o < 4) (h1 : i + n ≤ 100) (h2 : d + n ≤ 100) (τ0 : HS) : ∃ τ' : HS, f9_copy_107 (nI k) (nI i) (nI o) (nI d) (nI n) (0, τ0) = some (nI n, τ') ∧ (∀ b, b ≠ 0 → b ≠ 23 → b ≠ 24 → τ'.1 b = τ0.1 b) ∧ (∀ y, τ'.1 0 y = if y = 0 then 0 else τ0.1 0 y) ∧ ∀ y, τ'.1 23 y = if 100 * o + d ≤ y ∧ y < 100 * o + d + n then τ0.1 23 (100 * k + i + (y - (100 * o + d))) else τ0.1 23 y := by
  have second : ∀ τ1 : HS, (∀ b, b ≠ 24 → τ1.1 b = τ0.1 b) → (∀ x, x < n → τ1.1 24 x = τ0.1 23 (100 * k + i + x)) → ∃ r : Int32 × HS, f9_copy_144 (nI o) (nI d) (nI n) (0, τ1) = some r ∧ (r.1 = nI n ∧ (∀ b, b ≠ 0 → b ≠ 23 → b ≠ 24 → r.2.1 b = τ0.1 b) ∧ (∀ y, r.2.1 0 y = if y = 0 then 0 else τ0.1 0 y) ∧ ∀ y, r.2.1 23 y = if 100 * o + d ≤ y ∧ y < 100 * o + d + n then τ0.1 23 (100 * k + i + (y - (100 * o + d))) else τ0.1 23 y) := by
    intro τ1 q1 q2
    unfold f9_copy_144
    refine wl_fuel (body := fun k144 p => f9_copy_144_b k144 (nI o) (nI d) (nI n) p.1 p.2) (fun p : Int32 × HS => ∃ m, m ≤ n ∧ p.1 = nI m ∧ (∀ b, b ≠ 23 → p.2.1 b = τ1.1 b) ∧ ∀ y, p.2.1 23 y = if 100 * o + d ≤ y ∧ y < 100 * o + d + m then τ0.1 23 (100 * k + i + (y - (100 * o + d))) else τ0.1 23 y) (fun p => 200 - p.1.toNatClampNeg) _ (0, τ1) ⟨0, by omega, rfl, fun _ _ => rfl, fun y => by rw [if_neg (by omega)]; show τ1.1 23 y = _; rw [q1 23 (by omega)]⟩ (by show 200 - _ < _; omega) ?_
    rintro kk ⟨x6, τ2⟩ ⟨m, hm, e, g1, g3⟩ ih
    have e : x6 = nI m := e
    subst e
    have g1 : ∀ b, b ≠ 23 → τ2.1 b = τ1.1 b := g1
    have g3 : ∀ y, τ2.1 23 y = if 100 * o + d ≤ y ∧ y < 100 * o + d + m then τ0.1 23 (100 * k + i + (y - (100 * o + d))) else τ0.1 23 y := g3
    show ∃ r, f9_copy_144_b kk (nI o) (nI d) (nI n) (nI m) τ2 = some r ∧ _
    unfold f9_copy_144_b f9_refused
    by_cases c : n ≤ m
    · have : m = n := by omega
      subst this
      rw [if_pos (nI_le c (by omega)), bd_s]
      refine ⟨_, rfl, rfl, fun b c1 c2 c3 => by show (uI τ2 0 0 0).1 b = _; rw [uI_other c1, g1 b c2, q1 b c3], fun y => ?_, fun y => by show (uI τ2 0 0 0).1 23 y = _; rw [uI_other (by omega), g3]⟩
      show (uI τ2 0 0 0).1 0 y = _
      rw [uI_at, g1 0 (by omega), q1 0 (by omega)]; by_cases c : y = 0 <;> simp [c]
    · rw [if_neg (nI_ge (by omega) (by omega)), ix_in (by omega) (by omega), e100t, ix_in (by omega) (by omega), nI_clamp (by omega), nI_clamp (by omega), nI_1]
      refine ih _ ⟨m + 1, by omega, rfl, fun b hb => by show (uI τ2 23 _ _).1 b = _; rw [uI_other hb]; exact g1 b hb, fun y => ?_⟩ ?_
      · show (uI τ2 23 (100 * o + d + m) (τ2.1 24 m)).1 23 y = _
        rw [uI_at, g3, g1 24 (by omega), q2 m (by omega)]
        by_cases c1 : y = 100 * o + d + m
        · rw [if_pos ⟨rfl, c1⟩, if_pos (by omega), c1, show 100 * o + d + m - (100 * o + d) = m by omega]
        · rw [if_neg (fun z => c1 z.2)]
          by_cases c2 : 100 * o + d ≤ y ∧ y < 100 * o + d + m
          · rw [if_pos c2, if_pos (by omega)]
          · rw [if_neg c2, if_neg (by omega)]
      · show 200 - (nI (m + 1)).toNatClampNeg < 200 - (nI m).toNatClampNeg
        rw [nI_clamp (by omega), nI_clamp (by omega)]; omega
  unfold f9_copy_107
  obtain ⟨r, p1, p2, p3, p4, p5⟩ := wl_fuel (body := fun k107 p => f9_copy_107_b k107 (nI k) (nI i) (nI o) (nI d) (nI n) p.1 p.2) (fun p : Int32 × HS => ∃ m, m ≤ n ∧ p.1 = nI m ∧ (∀ b, b ≠ 24 → p.2.1 b = τ0.1 b) ∧ ∀ x, x < m → p.2.1 24 x = τ0.1 23 (100 * k + i + x)) (fun p => 200 - p.1.toNatClampNeg) (fun r : Int32 × HS => r.1 = nI n ∧ (∀ b, b ≠ 0 → b ≠ 23 → b ≠ 24 → r.2.1 b = τ0.1 b) ∧ (∀ y, r.2.1 0 y = if y = 0 then 0 else τ0.1 0 y) ∧ ∀ y, r.2.1 23 y = if 100 * o + d ≤ y ∧ y < 100 * o + d + n then τ0.1 23 (100 * k + i + (y - (100 * o + d))) else τ0.1 23 y) (0, τ0) ⟨0, by omega, rfl, fun _ _ => rfl, fun x hx => absurd hx (Nat.not_lt_zero x)⟩ (by show 200 - _ < _; omega) (by
    rintro kk ⟨x6, τ2⟩ ⟨m, hm, e, g1, g3⟩ ih
    have e : x6 = nI m := e
    subst e
    have g1 : ∀ b, b ≠ 24 → τ2.1 b = τ0.1 b := g1
    have g3 : ∀ x, x < m → τ2.1 24 x = τ0.1 23 (100 * k + i + x) := g3
    show ∃ r, f9_copy_107_b kk (nI k) (nI i) (nI o) (nI d) (nI n) (nI m) τ2 = some r ∧ _
    unfold f9_copy_107_b
    by_cases c : n ≤ m
    · rw [if_pos (nI_le c (by omega))]
      exact second τ2 g1 (fun x hx => g3 x (by omega))
    · rw [if_neg (nI_ge (by omega) (by omega)), e100t, ix_in (by omega) (by omega), ix_in (by omega) (by omega), nI_clamp (by omega), nI_clamp (by omega), nI_1]
      refine ih _ ⟨m + 1, by omega, rfl, fun b hb => by show (uI τ2 24 _ _).1 b = _; rw [uI_other hb]; exact g1 b hb, fun x hx => ?_⟩ ?_
      · show (uI τ2 24 m (τ2.1 23 (100 * k + i + m))).1 24 x = _
        rw [uI_at, g1 23 (by omega)]
        by_cases c1 : x = m
        · rw [if_pos ⟨rfl, c1⟩, c1]
        · rw [if_neg (fun z => c1 z.2)]; exact g3 x (by omega)
      · show 200 - (nI (m + 1)).toNatClampNeg < 200 - (nI m).toNatClampNeg
        rw [nI_clamp (by omega), nI_clamp (by omega)]; omega)
  obtain ⟨r1, r2⟩ := r
  have p2 : r1 = nI n := p2
  subst p2
  exact ⟨r2, p1, p3, p4, p5⟩
theorem part_cc (s : Nat) (hs : s ≤ 100) (i : Int32) (n : Nat) (hn : n < 2147483648) : (i.toInt < 0 ∨ (s : Int) < i.toInt + (nI n).toInt) ∨ ∃ i' : Nat, i = nI i' ∧ i' + n ≤ s := by
  by_cases c : i.toInt < 0 ∨ (s : Int) < i.toInt + (nI n).toInt
  · exact Or.inl c
  · rcases arg_n i with h | ⟨i', h1, rfl⟩
    · exact absurd (Or.inl h) c
    · rw [nI_toInt (by omega), nI_toInt (by omega)] at c
      exact Or.inr ⟨i', rfl, by omega⟩
theorem op_copy (j : Nat) (σ τ : HS) (a1 a2 a3 a4 a5 : Int32) (hI : Inv j σ τ) (hj : j < 512) : ∃ (r : Int32) (σ1 τ1 : HS), f8_copy a1 a2 a3 a4 a5 σ = some (r, σ1) ∧ f9_copy a1 a2 a3 a4 a5 τ = some (r, τ1) ∧ Inv (j + 1) σ1 τ1 := by
  obtain ⟨P, C, hB⟩ := hI
  obtain ⟨w, wc, rp, rc, rm, rs, rl, a8, a9, b1, b2, b3, b4⟩ := id hB
  unfold f8_copy f9_copy f8_copy_14 f8_copy_42 f8_copy_109 f9_copy_14 f9_copy_38 f9_copy_98 f9_refused
  rcases arg_c a1 4 (by omega) with hk | ⟨k, hk, rfl⟩
  · rw [isSheet_n hk, bd_s, if_pos rfl, noSheet_n hk, bd_s, if_neg n10, told_m1, bd_s, bd_s]
    exact ⟨_, _, _, rfl, rfl, P, C, (hB.flt 0).mono⟩
  · rw [isSheet_y hk, bd_s, if_neg n10, noSheet_y hk, bd_s, if_pos rfl]
    rcases arg_c a3 4 (by omega) with ho | ⟨o, ho, rfl⟩
    · rw [isSheet_n ho, bd_s, if_pos rfl, noSheet_n ho, bd_s, if_neg n10, told_m1, bd_s, bd_s]
      exact ⟨_, _, _, rfl, rfl, P, C, (hB.flt 0).mono⟩
    · rw [isSheet_y ho, bd_s, if_neg n10, noSheet_y ho, bd_s, if_pos rfl, ix_in hk (by omega), ix_in ho (by omega), nI_clamp (by omega), nI_clamp (by omega)]
      rcases rs k hk with ⟨s1, s2, s3⟩ | ⟨a, s, s1, s2, s3, s4, s5, s6, s7⟩
      · rw [isEmpty_y hk s1, bd_s, if_neg n10, told_1, bd_s, s3, if_pos m1lt0, failed_1, bd_s]
        exact ⟨_, _, _, rfl, rfl, P, C, (hB.flt 1).mono⟩
      · rw [isEmpty_n hk s3 s1, bd_s, if_pos rfl, s5, if_neg (nI_pos (by omega))]
        rcases rs o ho with ⟨t1, t2, t3⟩ | ⟨b, t, t1, t2, t3, t4, t5, t6, t7⟩
        · rw [isEmpty_y ho t1, bd_s, if_neg n10, told_1, bd_s, t3, if_neg (by decide), failed_1, bd_s]
          exact ⟨_, _, _, rfl, rfl, P, C, (hB.flt 1).mono⟩
        · rw [isEmpty_n ho t3 t1, bd_s, if_pos rfl, laneOf_e hk, bd_s, laneOf_e ho, bd_s, s3, t3, t5, if_pos (nI_pos' (by omega)), ixc hk (by omega), ixc ho (by omega), s6, t6]
          by_cases ce : nI a = nI b
          · rw [if_pos ce, if_pos ce, ixc hk (by omega)]
            rcases arg_n a5 with hn | ⟨n, hn, rfl⟩
            · rw [if_pos (by rw [Int32.lt_iff_toInt_lt]; exact hn), told_3, bd_s, beyond_y s2 (Or.inr (Or.inl hn)), bd_s, if_neg n10, failed_3, bd_s]
              exact ⟨_, _, _, rfl, rfl, P, C, (hB.flt 3).mono⟩
            · rw [if_neg (nI_pos (by omega))]
              have hn0 : 0 ≤ (nI n).toInt := by rw [nI_toInt (by omega)]; omega
              rcases part_cc s s2 a2 n hn with hi | ⟨i, rfl, hi⟩
              · rw [hasPart_n hk s4 s2 hn0 hi, bd_s, if_pos rfl, told_3, bd_s, beyond_y s2 (by omega), bd_s, if_neg n10, failed_3, bd_s]
                exact ⟨_, _, _, rfl, rfl, P, C, (hB.flt 3).mono⟩
              · rw [hasPart_y hk s4 s2 hi, bd_s, if_neg n10, beyond_n s2 hi, bd_s, if_pos rfl, ixc ho (by omega)]
                rcases part_cc t t2 a4 n hn with hd | ⟨d, rfl, hd⟩
                · rw [hasPart_n ho t4 t2 hn0 hd, bd_s, if_pos rfl, told_3, bd_s, t5, beyond_y t2 (by omega), bd_s, if_neg n10, failed_3, bd_s]
                  exact ⟨_, _, _, rfl, rfl, P, C, (hB.flt 3).mono⟩
                · rw [hasPart_y ho t4 t2 hd, bd_s, if_neg n10, t5, beyond_n t2 hd, bd_s, if_pos rfl]
                  obtain ⟨σ1, u1, u2, u3, u4⟩ := move_spec hk ho (i := i) (d := d) (n := n) (by omega) (by omega) σ
                  obtain ⟨τ1, v1, v2, v3, v4⟩ := mcopy_spec hk ho (i := i) (d := d) (n := n) (by omega) (by omega) τ
                  rw [u1, v1, bd_s, told_0 (Or.inl (by omega)), bd_s]
                  refine ⟨_, _, _, rfl, rfl, P, C, InvB.mono (hB.sh (fun x c1 c2 c3 c4 => by rw [uI_other c1, u2 x c4]) u3 ?_ (fun x c1 c2 c3 c4 c5 => v2 x c1 c4 c5) ⟨?_, ?_, ?_, ?_, ?_⟩ ?_ ?_ (rs.set ho (fun y hy => ?_) (fun k2 y h1 h2 h3 => ?_) (Or.inr ⟨b, t, t1, t2, ?_, ?_, ?_, ?_, fun x hx => ?_⟩)))⟩
                  · simp [uI_at, u2 0 (by omega)]
                  · simp [v3]
                  · simp [v3]
                  · simp [v3]
                  · simp [v3]
                  · simp [v3]
                  · simp [uI_at, v3, u2 0 (by omega)]; exact b3
                  · simp [uI_at, v3]
                  · simp [uI_at, u2 2 (by omega), u2 3 (by omega), v2 21 (by omega) (by omega) (by omega), v2 22 (by omega) (by omega) (by omega)]
                  · have : ¬ (100 * o + d ≤ 100 * k2 + y ∧ 100 * k2 + y < 100 * o + d + n) := by omega
                    rw [v4, if_neg this, uI_other (by omega), u4, if_neg this]
                    exact ⟨rfl, rfl⟩
                  · rw [uI_other (by omega), u2 2 (by omega)]; exact t3
                  · rw [uI_other (by omega), u2 3 (by omega)]; exact t4
                  · rw [v2 21 (by omega) (by omega) (by omega)]; exact t5
                  · rw [v2 22 (by omega) (by omega) (by omega)]; exact t6
                  · rw [uI_other (by omega), u4, v4]
                    by_cases c : 100 * o + d ≤ 100 * o + x ∧ 100 * o + x < 100 * o + d + n
                    · rw [if_pos c, if_pos c, show 100 * k + i + (100 * o + x - (100 * o + d)) = 100 * k + (i + (100 * o + x - (100 * o + d))) by omega]
                      exact s7 _ (by omega)
                    · rw [if_neg c, if_neg c]; exact t7 x hx
          · rw [if_neg ce, if_neg ce, told_2, bd_s, failed_2, bd_s]
            exact ⟨_, _, _, rfl, rfl, P, C, (hB.flt 2).mono⟩
