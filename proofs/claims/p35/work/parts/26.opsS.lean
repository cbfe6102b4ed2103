/-! calls about sheets -/
theorem InvB.sh {j : Nat} {σ τ σ' τ' : HS} {P : PP} {C : CC} (h : InvB j σ τ P C) (e : ∀ a, a ≠ 0 → a ≠ 2 → a ≠ 3 → a ≠ 4 → σ'.1 a = σ.1 a) (e2 : σ'.2 = σ.2) (e11 : σ'.1 0 11 = σ.1 0 11) (t : ∀ a, a ≠ 0 → a ≠ 21 → a ≠ 22 → a ≠ 23 → a ≠ 24 → τ'.1 a = τ.1 a) (t0 : τ'.1 0 1 = τ.1 0 1 ∧ τ'.1 0 2 = τ.1 0 2 ∧ τ'.1 0 3 = τ.1 0 3 ∧ τ'.1 0 4 = τ.1 0 4 ∧ τ'.1 0 29 = τ.1 0 29) (tr : σ'.1 0 12 = τ'.1 0 36) (fl : σ'.1 0 13 = τ'.1 0 0) (sh : RepSh σ' τ') : InvB j σ' τ' P C := by
  obtain ⟨a1, a2, a3, a4, a5, a6, a7, a8, a9, b1, b2, b3, b4⟩ := h
  have E : ∀ a, 5 ≤ a → σ'.1 a = σ.1 a := fun a ha => e a (by omega) (by omega) (by omega) (by omega)
  have T : ∀ a, 1 ≤ a → a ≤ 20 → τ'.1 a = τ.1 a := fun a h1 h2 => t a (by omega) (by omega) (by omega) (by omega) (by omega)
  refine ⟨a1, a2, a3.congr (fun a h1 _ => ⟨E a (by omega), by rw [e2]⟩), a4.congr (E _ (by omega)) (E _ (by omega)), a5.congr ⟨t0.1, t0.2.1, t0.2.2.1, t0.2.2.2.1⟩ (fun a h1 h2 => T a h1 (by omega)), sh, a7.congr ⟨by rw [E _ (by omega)], E _ (by omega), E _ (by omega)⟩ ⟨t0.2.2.2.2, T _ (by omega) (by omega), T _ (by omega) (by omega)⟩, a8.congr e11 (E _ (by omega)) (by rw [e2]), a9.congr (by rw [E _ (by omega)]) (E _ (by omega)) (E _ (by omega)), b1.congr (by rw [E _ (by omega)]) (E _ (by omega)), b2.congr (by rw [E _ (by omega)]) (E _ (by omega)), tr, fl⟩
theorem RepSh.set {σ τ σ' τ' : HS} (h : RepSh σ τ) {k : Nat} (hk : k < 4) (e1 : ∀ y, y ≠ k → σ'.1 2 y = σ.1 2 y ∧ σ'.1 3 y = σ.1 3 y ∧ τ'.1 21 y = τ.1 21 y ∧ τ'.1 22 y = τ.1 22 y) (e2 : ∀ k2 y, k2 ≠ k → k2 < 4 → y < 100 → σ'.1 4 (100 * k2 + y) = σ.1 4 (100 * k2 + y) ∧ τ'.1 23 (100 * k2 + y) = τ.1 23 (100 * k2 + y)) (hn : (σ'.1 2 k = -1 ∧ σ'.1 3 k = 0 ∧ τ'.1 21 k = -1) ∨ ∃ a s : Nat, a ≤ 2 ∧ s ≤ 100 ∧ σ'.1 2 k = nI a ∧ σ'.1 3 k = nI s ∧ τ'.1 21 k = nI s ∧ τ'.1 22 k = nI a ∧ ∀ i, i < s → σ'.1 4 (100 * k + i) = τ'.1 23 (100 * k + i)) : RepSh σ' τ' := by
  intro k2 hk2
  by_cases c : k2 = k
  · subst c; exact hn
  · obtain ⟨f1, f2, f3, f4⟩ := e1 k2 c
    rw [f1, f2, f3, f4]
    rcases h k2 hk2 with h | ⟨a, s, h1, h2, h3, h4, h5, h6, h7⟩
    · exact Or.inl h
    · exact Or.inr ⟨a, s, h1, h2, h3, h4, h5, h6, fun i hi => by rw [(e2 k2 i c hk2 (by omega)).1, (e2 k2 i c hk2 (by omega)).2]; exact h7 i hi⟩
theorem op_lose (j : Nat) (σ τ : HS) (a1 : Int32) (hI : Inv j σ τ) (hj : j < 512) : ∃ (r : Int32) (σ1 τ1 : HS), f8_lose a1 σ = some (r, σ1) ∧ f9_lose a1 τ = some (r, τ1) ∧ Inv (j + 1) σ1 τ1 := by
  obtain ⟨P, C, hB⟩ := hI
  obtain ⟨w, wc, rp, rc, rm, rs, rl, a8, a9, b1, b2, b3, b4⟩ := id hB
  unfold f8_lose f9_lose f7_drop f7_drop_13 f9_lose_23
  rcases arg_c a1 4 (by omega) with hk | ⟨k, hk, rfl⟩
  · rw [isSheet_n hk, bd_s, if_pos rfl, noSheet_n hk, bd_s, if_neg n10]
    exact ⟨_, _, _, rfl, rfl, P, C, hB.mono⟩
  · have key : Inv (j + 1) (uI (uI σ 2 k (-1)) 3 k 0) (uI τ 21 k (-1)) := by
      refine ⟨P, C, InvB.mono (hB.sh (fun a h1 h2 h3 h4 => by rw [uI_other (by omega), uI_other (by omega)]) rfl ?_ (fun a h1 h2 h3 h4 h5 => by rw [uI_other (by omega)]) ⟨?_, ?_, ?_, ?_, ?_⟩ ?_ ?_ (rs.set hk (fun y hy => ?_) (fun k2 y h1 h2 h3 => ?_) (Or.inl ?_)))⟩
      · simp [uI_at]
      · simp [uI_at]
      · simp [uI_at]
      · simp [uI_at]
      · simp [uI_at]
      · simp [uI_at]
      · simp [uI_at]; exact b3
      · simp [uI_at]; exact b4
      · simp [uI_at, hy]
      · simp [uI_at]
      · simp [uI_at]
    rw [isSheet_y hk, bd_s, if_neg n10, noSheet_y hk, bd_s, if_pos rfl, ix_in hk (by omega), ix_in hk (by omega), ix_in hk (by omega), nI_clamp (by omega)]
    rcases rs k hk with ⟨s1, s2, s3⟩ | ⟨a2, s, s1, s2, s3, s4, s5, s6, s7⟩
    · rw [isEmpty_y hk s1, bd_s, if_neg n10, set_in hk (by omega), bd_s, set_in hk (by omega), bd_s, if_pos (Or.inl rfl), bd_s, if_pos rfl, s3, if_neg (by decide)]
      exact ⟨_, _, _, rfl, rfl, key⟩
    · rw [isEmpty_n hk s3 s1, bd_s, if_pos rfl, set_in hk (by omega), bd_s, set_in hk (by omega), bd_s, if_pos (Or.inr rfl), bd_s, if_neg n10, s5, if_pos (nI_pos' (by omega))]
      exact ⟨_, _, _, rfl, rfl, key⟩
theorem place_e (k i : Nat) (σ : HS) : f7_placeOf (nI k) (nI i) σ = some (nI (100 * k + i), σ) := by
  unfold f7_placeOf
  rw [show nI k * 100 + nI i = nI (100 * k + i) by show nI k * nI 100 + nI i = _; rw [pk_mul, nI_add, Nat.mul_comm]]
theorem renew_spec {k : Nat} (hk : k < 4) (a n : Int32) (σ : HS) : ∃ σ', f7_renew (nI k) a n σ = some σ' ∧ (∀ b, b ≠ 2 → b ≠ 3 → b ≠ 4 → σ'.1 b = σ.1 b) ∧ σ'.2 = σ.2 ∧ (∀ y, σ'.1 2 y = if y = k then a else σ.1 2 y) ∧ (∀ y, σ'.1 3 y = if y = k then n else σ.1 3 y) ∧ ∀ y, σ'.1 4 y = if 100 * k ≤ y ∧ y < 100 * k + 100 then 0 else σ.1 4 y := by
  unfold f7_renew f7_renew_21
  rw [set_in hk (by omega), bd_s, set_in hk (by omega), bd_s]
  generalize hs : uI (uI σ 2 k a) 3 k n = σ0
  have e0 : ∀ b, b ≠ 2 → b ≠ 3 → σ0.1 b = σ.1 b := fun b h2 h3 => by rw [← hs, uI_other h3, uI_other h2]
  have e2 : ∀ y, σ0.1 2 y = if y = k then a else σ.1 2 y := fun y => by rw [← hs, uI_other (by omega), uI_at]; by_cases c : y = k <;> simp [c]
  have e3 : ∀ y, σ0.1 3 y = if y = k then n else σ.1 3 y := fun y => by rw [← hs, uI_at, uI_other (by omega)]; by_cases c : y = k <;> simp [c]
  have e4 : σ0.2 = σ.2 := by rw [← hs]; rfl
  obtain ⟨σ', h1, h2, h3, h4⟩ := wl_fuel (body := fun k21 p => f7_renew_21_b k21 (nI k) p.1 p.2) (fun p : Int32 × HS => ∃ i, i ≤ 100 ∧ p.1 = nI i ∧ (∀ b, b ≠ 4 → p.2.1 b = σ0.1 b) ∧ p.2.2 = σ0.2 ∧ ∀ y, p.2.1 4 y = if 100 * k ≤ y ∧ y < 100 * k + i then 0 else σ0.1 4 y) (fun p => 200 - p.1.toNatClampNeg) (fun σ' : HS => (∀ b, b ≠ 4 → σ'.1 b = σ0.1 b) ∧ σ'.2 = σ0.2 ∧ ∀ y, σ'.1 4 y = if 100 * k ≤ y ∧ y < 100 * k + 100 then 0 else σ0.1 4 y) (0, σ0) ⟨0, by omega, rfl, fun _ _ => rfl, rfl, fun y => by rw [if_neg (by omega)]⟩ (by show 200 - _ < _; omega) (by
    rintro kk ⟨x4, σ2⟩ ⟨i, hi, e, g1, g2, g3⟩ ih
    have e : x4 = nI i := e
    subst e
    have g1 : ∀ b, b ≠ 4 → σ2.1 b = σ0.1 b := g1
    have g2 : σ2.2 = σ0.2 := g2
    have g3 : ∀ y, σ2.1 4 y = if 100 * k ≤ y ∧ y < 100 * k + i then 0 else σ0.1 4 y := g3
    show ∃ r, f7_renew_21_b kk (nI k) (nI i) σ2 = some r ∧ _
    unfold f7_renew_21_b
    by_cases c : 100 ≤ i
    · rw [if_pos (show (100 : Int32) ≤ nI i from nI_le (a := 100) c (by omega))]
      have : i = 100 := by omega
      subst this
      exact ⟨σ2, rfl, g1, g2, g3⟩
    · rw [if_neg (show ¬ (100 : Int32) ≤ nI i from nI_ge (b := 100) (by omega) (by omega)), place_e, bd_s, set_in (by omega) (by omega), bd_s, nI_1]
      refine ih _ ⟨i + 1, by omega, rfl, fun b hb => by show (uI σ2 4 _ 0).1 b = _; rw [uI_other hb]; exact g1 b hb, g2, fun y => ?_⟩ ?_
      · show (uI σ2 4 _ 0).1 4 y = _
        rw [uI_at, g3]
        by_cases c1 : y = 100 * k + i
        · rw [if_pos ⟨rfl, c1⟩, if_pos (by omega)]
        · rw [if_neg (fun z => c1 z.2)]
          by_cases c2 : 100 * k ≤ y ∧ y < 100 * k + i
          · rw [if_pos c2, if_pos (by omega)]
          · rw [if_neg c2, if_neg (by omega)]
      · show 200 - (nI (i + 1)).toNatClampNeg < 200 - (nI i).toNatClampNeg
        rw [nI_clamp (by omega), nI_clamp (by omega)]; omega)
  refine ⟨σ', h1, fun b c2 c3 c4 => by rw [h2 b c4, e0 b c2 c3], by rw [h3, e4], fun y => by rw [h2 2 (by omega), e2], fun y => by rw [h2 3 (by omega), e3], fun y => by rw [h4, e0 4 (by omega) (by omega)]⟩
theorem msheet_spec {k n : Nat} (hk : k < 4) (hn : n ≤ 100) (τ0 : HS) : ∃ τ' : HS, f9_sheet_65 (nI k) (nI n) (0, τ0) = some (1, τ') ∧ (∀ b, b ≠ 0 → b ≠ 23 → τ'.1 b = τ0.1 b) ∧ (∀ y, τ'.1 0 y = if y = 0 then 0 else τ0.1 0 y) ∧ ∀ y, τ'.1 23 y = if 100 * k ≤ y ∧ y < 100 * k + n then 0 else τ0.1 23 y := by
  unfold f9_sheet_65
  obtain ⟨r, h1, h2, h3, h4, h5⟩ := wl_fuel (body := fun k65 p => f9_sheet_65_b k65 (nI k) (nI n) p.1 p.2) (fun p : Int32 × HS => ∃ i, i ≤ n ∧ p.1 = nI i ∧ (∀ b, b ≠ 23 → p.2.1 b = τ0.1 b) ∧ ∀ y, p.2.1 23 y = if 100 * k ≤ y ∧ y < 100 * k + i then 0 else τ0.1 23 y) (fun p => 200 - p.1.toNatClampNeg) (fun r : Int32 × HS => r.1 = 1 ∧ (∀ b, b ≠ 0 → b ≠ 23 → r.2.1 b = τ0.1 b) ∧ (∀ y, r.2.1 0 y = if y = 0 then 0 else τ0.1 0 y) ∧ ∀ y, r.2.1 23 y = if 100 * k ≤ y ∧ y < 100 * k + n then 0 else τ0.1 23 y) (0, τ0) ⟨0, by omega, rfl, fun _ _ => rfl, fun y => by rw [if_neg (by omega)]⟩ (by show 200 - _ < _; omega) (by
    rintro kk ⟨x4, σ2⟩ ⟨i, hi, e, g1, g3⟩ ih
    have e : x4 = nI i := e
    subst e
    have g1 : ∀ b, b ≠ 23 → σ2.1 b = τ0.1 b := g1
    have g3 : ∀ y, σ2.1 23 y = if 100 * k ≤ y ∧ y < 100 * k + i then 0 else τ0.1 23 y := g3
    show ∃ r, f9_sheet_65_b kk (nI k) (nI n) (nI i) σ2 = some r ∧ _
    unfold f9_sheet_65_b f9_refused
    by_cases c : n ≤ i
    · rw [if_pos (nI_le c (by omega)), bd_s]
      have : i = n := by omega
      subst this
      refine ⟨_, rfl, rfl, fun b c1 c2 => by show (uI σ2 0 0 0).1 b = _; rw [uI_other c1, g1 b c2], fun y => ?_, fun y => by show (uI σ2 0 0 0).1 23 y = _; rw [uI_other (by omega), g3]⟩
      show (uI σ2 0 0 0).1 0 y = _
      rw [uI_at, g1 0 (by omega)]; by_cases c : y = 0 <;> simp [c]
    · rw [if_neg (nI_ge (by omega) (by omega)), show (100 : Int32) * nI k + nI i = nI (100 * k + i) by show nI 100 * nI k + nI i = _; rw [pk_mul, nI_add], ix_in (by omega) (by omega), nI_clamp (by omega), nI_1]
      refine ih _ ⟨i + 1, by omega, rfl, fun b hb => by show (uI σ2 23 _ 0).1 b = _; rw [uI_other hb]; exact g1 b hb, fun y => ?_⟩ ?_
      · show (uI σ2 23 _ 0).1 23 y = _
        rw [uI_at, g3]
        by_cases c1 : y = 100 * k + i
        · rw [if_pos ⟨rfl, c1⟩, if_pos (by omega)]
        · rw [if_neg (fun z => c1 z.2)]
          by_cases c2 : 100 * k ≤ y ∧ y < 100 * k + i
          · rw [if_pos c2, if_pos (by omega)]
          · rw [if_neg c2, if_neg (by omega)]
      · show 200 - (nI (i + 1)).toNatClampNeg < 200 - (nI i).toNatClampNeg
        rw [nI_clamp (by omega), nI_clamp (by omega)]; omega)
  obtain ⟨r1, r2⟩ := r
  have h2 : r1 = 1 := h2
  subst h2
  exact ⟨r2, h1, h3, h4, h5⟩
theorem op_sheet (j : Nat) (σ τ : HS) (a1 a2 a3 : Int32) (hI : Inv j σ τ) (hj : j < 512) : ∃ (r : Int32) (σ1 τ1 : HS), f8_sheet a1 a2 a3 σ = some (r, σ1) ∧ f9_sheet a1 a2 a3 τ = some (r, τ1) ∧ Inv (j + 1) σ1 τ1 := by
  obtain ⟨P, C, hB⟩ := hI
  obtain ⟨w, wc, rp, rc, rm, rs, rl, a8, a9, b1, b2, b3, b4⟩ := id hB
  unfold f8_sheet f9_sheet f8_sheet_26 f9_sheet_31 f9_refused f9_failed
  rcases arg_c a1 4 (by omega) with hk | ⟨k, hk, rfl⟩
  · rw [isSheet_n hk, bd_s, if_pos rfl, noSheet_n hk, bd_s, if_neg n10, told_0 (Or.inl (by decide)), bd_s, bd_s]
    exact ⟨_, _, _, rfl, rfl, P, C, (hB.flt 0).mono⟩
  · rw [isSheet_y hk, bd_s, if_neg n10, noSheet_y hk, bd_s, if_pos rfl]
    rcases arg_c a2 3 (by omega) with hl | ⟨a, ha, rfl⟩
    · rw [isLane_n hl, bd_s, if_pos rfl, inLane_n hl, bd_s, if_pos rfl, told_0 (Or.inl (by decide)), bd_s, bd_s]
      exact ⟨_, _, _, rfl, rfl, P, C, (hB.flt 0).mono⟩
    · rw [isLane_y ha, bd_s, if_neg n10, inLane_y ha, bd_s, if_neg n10]
      by_cases c1 : a3 ≤ 100
      · rw [if_pos c1, if_pos c1]
        by_cases c2 : 0 ≤ a3
        · rw [if_pos c2, if_pos c2, ix_in hk (by omega), ix_in hk (by omega), nI_clamp (by omega)]
          have hn : ∃ n, n ≤ 100 ∧ a3 = nI n := by
            rcases arg_n a3 with h | ⟨n, hn, rfl⟩
            · rw [Int32.le_iff_toInt_le] at c2
              have : (0 : Int32).toInt = 0 := rfl
              omega
            · refine ⟨n, ?_, rfl⟩
              rw [Int32.le_iff_toInt_le, nI_toInt hn] at c1
              have : (100 : Int32).toInt = 100 := rfl
              omega
          obtain ⟨n, hn, rfl⟩ := hn
          obtain ⟨σ', g1, g2, g3, g4, g5, g6⟩ := renew_spec hk (nI a) (nI n) σ
          obtain ⟨τ', q1, q2, q3, q4⟩ := msheet_spec hk hn (uI (uI τ 21 k (nI n)) 22 k (nI a))
          rw [g1, bd_s, told_0 (Or.inl (by decide)), bd_s]
          refine ⟨_, _, _, rfl, q1, P, C, InvB.mono (hB.sh (fun b c1 c2 c3 c4 => by rw [uI_other c1, g2 b c2 c3 c4]) g3 ?_ (fun b c1 c2 c3 c4 c5 => by rw [q2 b c1 c4, uI_other c3, uI_other c2]) ⟨?_, ?_, ?_, ?_, ?_⟩ ?_ ?_ (rs.set hk (fun y hy => ?_) (fun k2 y h1 h2 h3 => ?_) (Or.inr ⟨a, n, by omega, hn, ?_, ?_, ?_, ?_, fun i hi => ?_⟩)))⟩
          · rw [uI_at, if_neg (by omega), g2 0 (by omega) (by omega) (by omega)]
          · rw [q3, if_neg (by omega)]; simp [uI_at]
          · rw [q3, if_neg (by omega)]; simp [uI_at]
          · rw [q3, if_neg (by omega)]; simp [uI_at]
          · rw [q3, if_neg (by omega)]; simp [uI_at]
          · rw [q3, if_neg (by omega)]; simp [uI_at]
          · rw [uI_at, if_neg (by omega), g2 0 (by omega) (by omega) (by omega), q3, if_neg (by omega)]; simp [uI_at]; exact b3
          · rw [uI_at, if_pos ⟨rfl, rfl⟩, q3, if_pos rfl]
          · rw [uI_other (by omega), uI_other (by omega), g4, g5, if_neg hy, if_neg hy, q2 21 (by omega) (by omega), q2 22 (by omega) (by omega)]; simp [uI_at, hy]
          · rw [uI_other (by omega), g6, if_neg (by omega), q4, if_neg (by omega)]; simp [uI_at]
          · rw [uI_other (by omega), g4, if_pos rfl]
          · rw [uI_other (by omega), g5, if_pos rfl]
          · rw [q2 21 (by omega) (by omega)]; simp [uI_at]
          · rw [q2 22 (by omega) (by omega)]; simp [uI_at]
          · rw [uI_other (by omega), g6, if_pos (by omega), q4, if_pos (by omega)]
        · rw [if_neg c2, if_neg c2, told_4, bd_s, bd_s]
          exact ⟨_, _, _, rfl, rfl, P, C, (hB.flt 4).mono⟩
      · rw [if_neg c1, if_neg c1, told_0 (Or.inl (by decide)), bd_s, bd_s]
        exact ⟨_, _, _, rfl, rfl, P, C, (hB.flt 0).mono⟩
