/-! all rows; then what the class says of the best -/
theorem saidRow {sL : Nat} {a0 : Nat → Int32} (hsL : sL ≤ 260) (k85 : (Nat → Int32) × Int32 × HS × Nat → Option Int32) {a2 a3 a11 a12 a13 : Nat → Int32} {X : Nat} {σ τ : HS} {g j R : Nat} {P : PP} {C : CC}
    (hX : X < 1000) (hL : LwA a2 a3 P C) (hB : PB j σ τ P C) (hS : LwS a11 a12 P (freeSaid P C) (turnsN P C)) (h13 : DayO a13 P C (freeSaid P C) (turnsN P C)) (hF : ShF τ) (h29 : τ.1 0 29 = 0) (hj : j + 60 < 512) (hg : g + 820 < 80000) (hR : R < 4 ^ turnsN P C) (hr : ∀ t, t < turnsN P C → togS P C t = rs (turnsN P C) R t)
    (hK : ∀ a2' τ' σ' g' j' C', InvB j' σ' τ' P C' → LwA a2' a3 P C' → ShF τ' → cl C' = cl C → j' ≤ j + 60 → g' ≤ g + 820 → k85 (a2', nI X + 1, σ', g') = some 1) :
    g_law_514 sL a0 k85 a2 a3 (nI (pn P)) (nI X) (nI (cw C)) (nI (turnsN P C)) a11 a12 a13 g (nI R, nI (turnsN P C) - 1, σ) = some 1 := by
  have h2 := hL.1
  have h4 := hL.2.1
  obtain ⟨tb1, tb2⟩ := turnsB hL
  have p4 := pow4 (turnsN P C) (by omega)
  rw [dn_d (by omega)]
  unfold g_law_514
  refine wl_to (fun s : Int32 × Int32 × HS => ∃ m, m ≤ turnsN P C ∧ s.2.1 = dn m ∧ s.1 = nI (R / 4 ^ (turnsN P C - m)) ∧ PB (j + (turnsN P C - m)) s.2.2 τ P C) (fun s => if s.2.1 < 0 then 0 else s.2.1.toNatClampNeg + 1) _ _ ⟨turnsN P C, Nat.le_refl _, rfl, by rw [Nat.sub_self, Nat.pow_zero, Nat.div_one], by rw [Nat.sub_self]; exact hB⟩ (by
    show (if dn (turnsN P C) < 0 then 0 else (dn (turnsN P C)).toNatClampNeg + 1) < _
    have := dn_1 (turnsN P C - 1)
    rw [Nat.sub_add_cancel (by omega)] at this
    rw [this, if_neg (nI_pos (by omega)), nI_clamp (by omega)]; omega) ?_
  rintro k514 ⟨x16, x17, σ1⟩ ⟨m, hm, e1, e2, e3⟩ ih
  have e1 : x17 = dn m := e1
  have e2 : x16 = nI (R / 4 ^ (turnsN P C - m)) := e2
  subst e1 e2
  have e3 : PB (j + (turnsN P C - m)) σ1 τ P C := e3
  dsimp only
  unfold g_law_514_b
  cases m with
  | zero =>
    rw [dn_0, if_pos m1_neg]
    exact eachL hsL k85 hX hL e3 hS h13 hF h29 (by omega) hg (fun a2' τ' σ' g' j' C' z1 z2 z3 z4 z5 z6 => hK a2' τ' σ' g' j' C' z1 z2 z3 z4 (by omega) z6)
  | succ m =>
    have mu : (if dn m < 0 then 0 else (dn m).toNatClampNeg + 1) < if nI m < 0 then 0 else (nI m).toNatClampNeg + 1 := by
      rw [if_neg (nI_pos (by omega)), nI_clamp (by omega)]
      cases m with
      | zero => rw [dn_0, if_pos m1_neg]; omega
      | succ m => rw [dn_1, if_neg (nI_pos (by omega)), nI_clamp (by omega)]; omega
    have dl := Nat.div_le_self R (4 ^ (turnsN P C - (m + 1)))
    have er : rs (turnsN P C) R m = und (R / 4 ^ (turnsN P C - (m + 1)) % 4) := by
      unfold rs
      rw [show turnsN P C - 1 - m = turnsN P C - (m + 1) by omega]
    have en : R / 4 ^ (turnsN P C - (m + 1)) / 4 = R / 4 ^ (turnsN P C - m) := by
      rw [Nat.div_div_eq_div_mul, ← Nat.pow_succ, show (turnsN P C - (m + 1)).succ = turnsN P C - m from by omega]
    have d4 := Nat.mod_lt (R / 4 ^ (turnsN P C - (m + 1))) (show 4 > 0 by omega)
    obtain ⟨σ2, t1, t2, t3⟩ := together_t e3.1 (by omega) (by omega) (t := m) (by omega)
    have pb : PB (j + (turnsN P C - m)) σ2 τ P C := by
      refine ⟨?_, by rw [t3]; exact e3.2⟩
      have : j + (turnsN P C - m) = j + (turnsN P C - (m + 1)) + 1 := by omega
      rw [this]; exact t2
    have t1 : f8_together (nI m) σ1 = some (cd (und (R / 4 ^ (turnsN P C - (m + 1)) % 4)), σ2) := by rw [t1, hr m (by omega), er]
    rw [dn_1, if_neg (nI_pos (by omega)), t1, bd_s, show nI (R / 4 ^ (turnsN P C - (m + 1))) - nI (R / 4 ^ (turnsN P C - (m + 1))) / (4 : Int32) * (4 : Int32) = nI (R / 4 ^ (turnsN P C - (m + 1)) % 4) from pk_rem (d := 4) (by omega) (by omega) (by omega)]
    unfold g_law_542
    dsimp only
    rw [show nI (R / 4 ^ (turnsN P C - (m + 1))) / (4 : Int32) = nI (R / 4 ^ (turnsN P C - (m + 1)) / 4) from pk_div (d := 4) (by omega) (by omega) (by omega), en, dn_s (by omega)]
    have nx : k514 (nI (R / 4 ^ (turnsN P C - m)), dn m, σ2) = some 1 := ih _ ⟨m, by omega, rfl, rfl, pb⟩ mu
    by_cases c3 : R / 4 ^ (turnsN P C - (m + 1)) % 4 = 3
    · rw [if_pos (by rw [c3]; rfl), if_pos (by rw [c3]; rfl)]
      exact nx
    · rw [if_neg (show ¬ nI (R / 4 ^ (turnsN P C - (m + 1)) % 4) = (3 : Int32) from fun z => c3 ((nIc (c := 3) (by omega) (by omega)).mp z)), if_pos (by unfold und; rw [if_neg c3, cd_z (by omega)])]
      exact nx
theorem rowsA {sL : Nat} {a0 : Nat → Int32} (hsL : sL ≤ 260) (k85 : (Nat → Int32) × Int32 × HS × Nat → Option Int32) {a2 a3 a11 a12 a13 : Nat → Int32} {X : Nat} {σ τ : HS} {g j : Nat} {P : PP} {C : CC}
    (hX : X < 1000) (hL : LwA a2 a3 P C) (hB : PB j σ τ P C) (hS : LwS a11 a12 P (freeSaid P C) (turnsN P C)) (h13 : DayO a13 P C (freeSaid P C) (turnsN P C)) (hF : ShF τ) (h29 : τ.1 0 29 = 0) (hj : j + 70 < 512) (hg : g + 9100 < 80000)
    (hK : ∀ a2' τ' σ' g' j' C', InvB j' σ' τ' P C' → LwA a2' a3 P C' → ShF τ' → cl C' = cl C → j' ≤ j + 70 → g' ≤ g + 9100 → k85 (a2', nI X + 1, σ', g') = some 1) :
    g_law_273 sL a0 k85 a2 a3 (nI (pn P)) (nI X) (nI (cw C)) (nI (turnsN P C)) a11 a12 a13 σ g (1, 0) = some 1 := by
  have h2 := hL.1
  have h4 := hL.2.1
  obtain ⟨tb1, tb2⟩ := turnsB hL
  have p4 := pow4 (turnsN P C) (by omega)
  obtain ⟨w, wc, rp, rc, -⟩ := id hB.1
  unfold g_law_273
  refine wl_to (fun s : Int32 × Int32 => ∃ i, i ≤ turnsN P C ∧ s = (nI (4 ^ i), nI i)) (fun s => 10 - s.2.toNatClampNeg) _ _ ⟨0, by omega, rfl⟩ (by show 10 - _ < _; omega) ?_
  rintro k273 _ ⟨i, hi, rfl⟩ ih
  dsimp only
  unfold g_law_273_b
  by_cases c : turnsN P C ≤ i
  · have : i = turnsN P C := by omega
    subst this
    rw [if_pos (nI_le c (by omega)), dn_d (by omega)]
    unfold g_law_304
    refine wl_to (fun s : Int32 × Int32 × Int32 × Nat => ∃ m, m ≤ 4 ^ turnsN P C ∧ s.2.2.1 = dn m ∧ SoR P C m s.1 s.2.1 ∧ s.2.2.2 ≤ g + 2 * (4 ^ turnsN P C - m)) (fun s => if s.2.2.1 < 0 then 0 else s.2.2.1.toNatClampNeg + 1) _ _ ⟨4 ^ turnsN P C, Nat.le_refl _, rfl, Or.inl ⟨rfl, fun r h1 h3 => by omega⟩, by show g ≤ _; omega⟩ (by
      show (if dn (4 ^ turnsN P C) < 0 then 0 else (dn (4 ^ turnsN P C)).toNatClampNeg + 1) < _
      have := dn_1 (4 ^ turnsN P C - 1)
      rw [Nat.sub_add_cancel (by omega)] at this
      rw [this, if_neg (nI_pos (by omega)), nI_clamp (by omega)]; omega) ?_
    rintro k304 ⟨x15, x16, x17, g1⟩ ⟨m, hm, e1, e2, e3⟩ ih2
    have e1 : x17 = dn m := e1
    subst e1
    have e2 : SoR P C m x15 x16 := e2
    have e3 : g1 ≤ g + 2 * (4 ^ turnsN P C - m) := e3
    dsimp only
    unfold g_law_304_b
    cases m with
    | zero =>
      obtain ⟨q1, R, q2, q3, q4⟩ := e2.done w wc
      obtain ⟨σ2, t1, t2, t3⟩ := together_w hB.1 (by omega) (by omega)
      obtain ⟨-, -, rp2, rc2, -⟩ := id t2
      have pb : PB (j + 1) σ2 τ P C := ⟨t2, by rw [t3]; exact hB.2⟩
      rw [dn_0, if_pos m1_neg, t1, bd_s, if_pos q1.symm]
      dsimp only
      rw [together_n rp2 rc2 w wc (Or.inl rfl), bd_s, if_pos rfl]
      dsimp only
      rw [together_n rp2 rc2 w wc (Or.inr rfl), bd_s, if_pos rfl, q3]
      exact saidRow hsL k85 hX hL pb hS h13 hF h29 (by omega) (by omega) q2 q4 (fun a2' τ' σ' g' j' C' z1 z2 z3 z4 z5 z6 => hK a2' τ' σ' g' j' C' z1 z2 z3 z4 (by omega) (by omega))
    | succ m =>
      have mu : (if dn m < 0 then 0 else (dn m).toNatClampNeg + 1) < if nI m < 0 then 0 else (nI m).toNatClampNeg + 1 := by
        rw [if_neg (nI_pos (by omega)), nI_clamp (by omega)]
        cases m with
        | zero => rw [dn_0, if_pos m1_neg]; omega
        | succ m => rw [dn_1, if_neg (nI_pos (by omega)), nI_clamp (by omega)]; omega
      rw [dn_1, if_neg (nI_pos (by omega)), if_neg (by omega)]
      refine rowL k85 k304 hL w wc (by omega) (by omega) (fun g' hg' => ⟨fun hn => ?_, fun hy => ⟨fun z => ?_, fun z => ?_⟩⟩)
      · exact ih2 _ ⟨m, by omega, rfl, e2.no hn, by show g' ≤ _; omega⟩ mu
      · exact ih2 _ ⟨m, by omega, rfl, (e2.yes w wc hy (by omega)).1 z, by show g' ≤ _; omega⟩ mu
      · exact ih2 _ ⟨m, by omega, rfl, (e2.yes w wc hy (by omega)).2 z, by show g' ≤ _; omega⟩ mu
  · rw [if_neg (nI_ge (by omega) (by omega)), nI_1, show nI (4 ^ i) * (4 : Int32) = nI (4 ^ (i + 1)) by show nI (4 ^ i) * nI 4 = _; rw [pk_mul, Nat.pow_succ]]
    refine ih _ ⟨i + 1, by omega, rfl⟩ ?_
    show 10 - (nI (i + 1)).toNatClampNeg < 10 - (nI i).toNatClampNeg
    rw [nI_clamp (by omega), nI_clamp (by omega)]; omega
