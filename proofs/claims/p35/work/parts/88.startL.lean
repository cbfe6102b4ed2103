/-! a round of the law: a swap, a law, and all that is asked after them -/
theorem exchL {sL : Nat} {a0 : Nat → Int32} {k85 : (Nat → Int32) × Int32 × HS × Nat → Option Int32} {a2 a3 : Nat → Int32} {x5 x6 : Int32} {σ : HS} {g n h y : Nat} {o : Nat → Nat} {v : Option Int32} (hn : n ≤ 4) (hh : h < 100) (hy : y < 100) (ho : ∀ r, r < n → a2 (14 + r) = nI (o r) ∧ o r < 100)
    (hK : ∀ k139 a2', (∀ r, r < n → a2' (14 + r) = nI (xch h y o r)) → (∀ i, i < 14 → a2' i = a2 i) → g_law_139_b sL a0 k85 k139 a2' a3 (nI n) x5 x6 (nI h) (nI y) (nI n) σ g = v) :
    g_law_139 sL a0 k85 a3 (nI n) x5 x6 (nI h) (nI y) σ g (a2, 0) = v := by
  unfold g_law_139
  refine wl_to (fun p : (Nat → Int32) × Int32 => ∃ z, z ≤ n ∧ p.2 = nI z ∧ (∀ r, r < n → p.1 (14 + r) = nI (if r < z then xch h y o r else o r)) ∧ ∀ i, i < 14 → p.1 i = a2 i) (fun p => 10 - p.2.toNatClampNeg) v _ ⟨0, by omega, rfl, fun r hr => by rw [if_neg (by omega)]; exact (ho r hr).1, fun _ _ => rfl⟩ (by show 10 - _ < _; omega) ?_
  rintro k139 ⟨a, x⟩ ⟨z, hz, e, g1, g2⟩ ih
  have e : x = nI z := e
  subst e
  have g1 : ∀ r, r < n → a (14 + r) = nI (if r < z then xch h y o r else o r) := g1
  have g2 : ∀ i, i < 14 → a i = a2 i := g2
  dsimp only
  by_cases c : n ≤ z
  · have : z = n := by omega
    subst this
    exact hK k139 a (fun r hr => by rw [g1 r hr, if_pos (by omega)]) g2
  · unfold g_law_139_b g_law_187
    have hoz := (ho z (by omega)).2
    have go : ∀ w : Nat, w = xch h y o z → (bd (some (upd a (14 + z) (nI w))) fun b2 => k139 (b2, nI z + 1)) = v := by
      rintro w rfl
      rw [bd_s, nI_1]
      refine ih _ ⟨z + 1, by omega, rfl, fun r hr => ?_, fun i hi => ?_⟩ ?_
      · show upd a (14 + z) _ (14 + r) = _
        by_cases cr : r = z
        · subst cr
          rw [upS, if_pos (by omega)]
        · rw [upN (by omega), g1 r hr]
          by_cases c2 : r < z
          · rw [if_pos c2, if_pos (by omega)]
          · rw [if_neg c2, if_neg (by omega)]
      · show upd a (14 + z) _ i = _
        rw [upN (by omega)]; exact g2 i hi
      · show 10 - (nI (z + 1)).toNatClampNeg < 10 - (nI z).toNatClampNeg
        rw [nI_clamp (by omega), nI_clamp (by omega)]; omega
    have gz : a (14 + z) = nI (o z) := by rw [g1 z (by omega), if_neg (Nat.lt_irrefl z)]
    rw [if_neg (nI_ge (by omega) (by omega)), le14, ix_in (by omega) (by omega), nI_clamp (by omega), gz, ixc (by omega) (by omega), ixc (by omega) (by omega), ixc (by omega) (by omega)]
    by_cases c1 : o z = h
    · rw [if_pos (by rw [c1])]
      exact go y (by unfold xch; rw [if_pos c1])
    · rw [if_neg (fun q => c1 ((nIc (by omega) (by omega)).mp q))]
      by_cases c2 : o z = y
      · rw [if_pos (by rw [c2])]
        exact go h (by unfold xch; rw [if_neg c1, if_pos c2])
      · rw [if_neg (fun q => c2 ((nIc (by omega) (by omega)).mp q))]
        exact go (o z) (by unfold xch; rw [if_neg c1, if_neg c2])
theorem LwA.law {a2 a3 : Nat → Int32} {P : PP} {C : CC} (h : LwA a2 a3 P C) (k : Nat) : LwA (upd a2 3 (nI k)) a3 P (k, cl C, co C) := by
  obtain ⟨h2, h4, e0, e1, e2, e3, hw, ho⟩ := h
  exact ⟨h2, h4, by rw [upN (by omega)]; exact e0, by rw [upN (by omega)]; exact e1, by rw [upN (by omega)]; exact e2, upS, fun k hk => by rw [upN (by omega)]; exact hw k hk, fun p hp => by rw [upN (by omega)]; exact ho p hp⟩
/-- both rounds -/
theorem roundL {sL : Nat} {a0 : Nat → Int32} (hsL : sL ≤ 260) {a2 a3 : Nat → Int32} {σ τ : HS} {g j : Nat} {P : PP} {C : CC} (hL : LwA a2 a3 P C) (hB : InvB j σ τ P C) (hF : ShF τ) (hj : j ≤ 200) (hg : g ≤ 1000) :
    g_law_85 sL a0 a3 (nI (pn P)) (a2, 0, σ, g) = some 1 := by
  unfold g_law_85
  refine wl_to (fun s : (Nat → Int32) × Int32 × HS × Nat => ∃ X j' τ' C', X ≤ 2 ∧ s.2.1 = nI X ∧ InvB j' s.2.2.1 τ' P C' ∧ LwA s.1 a3 P C' ∧ ShF τ' ∧ j' ≤ 200 + 75 * X ∧ (X = 0 → s.2.2.2 ≤ 1000) ∧ (X ≤ 1 → s.2.2.2 ≤ 11000)) (fun s => 10 - s.2.1.toNatClampNeg) _ _ ⟨0, j, τ, C, by omega, rfl, hB, hL, hF, by omega, fun _ => hg, fun _ => by show g ≤ 11000; omega⟩ (by show 10 - _ < _; omega) ?_
  rintro k85 ⟨b2, x5, σ1, g1⟩ ⟨X, j', τ', C', hX, e1, i1, i2, i3, hj', e20, e21⟩ ih
  have e1 : x5 = nI X := e1
  subst e1
  have i1 : InvB j' σ1 τ' P C' := i1
  have i2 : LwA b2 a3 P C' := i2
  have e20 : X = 0 → g1 ≤ 1000 := e20
  have e21 : X ≤ 1 → g1 ≤ 11000 := e21
  dsimp only
  unfold g_law_85_b
  have h2 := i2.1
  have h4 := i2.2.1
  obtain ⟨w, wc, rp, -⟩ := id i1
  by_cases c : 2 ≤ X
  · have : X = 2 := by omega
    subst this
    rw [if_pos (show (2 : Int32) ≤ nI 2 by decide), owed_n C' rp w (x := 5) (Or.inl (by show (pn P : Int) ≤ 5; omega)), bd_s, if_pos rfl]
    dsimp only
    rw [motion_n rp w (Or.inl (Or.inl (by rw [tn1]; omega))), bd_s, if_pos rfl]
  · rw [if_neg (show ¬ (2 : Int32) ≤ nI X from nI_ge (b := 2) (by omega) (by omega))]
    obtain ⟨v, hv⟩ := cellL hsL a0 (12 + X) (by omega)
    obtain ⟨k1, hk1, l1⟩ := lowL v (n := pn P) (by omega) (by omega)
    have l2 := lowL (v >>> (3 &&& 31)) (n := pn P) (by omega) (by omega)
    obtain ⟨k2, hk2, l2⟩ := l2
    obtain ⟨σ2, τ2, s1, s2, s3, s4⟩ := swap_y i1 hk1 hk2 (o' := xch k1 k2 (co C')) (fun _ _ => rfl)
    rw [le12, hv, bd_s, l1, bd_s, l2, bd_s, s1, bd_s, if_pos rfl]
    refine exchL (o := co C') h4 (by omega) (by omega) (fun r hr => ⟨i2.2.2.2.2.2.2.2 r hr, by have := wc.2.2.2.1 r hr; omega⟩) (fun k139 c2 q1 q2 => ?_)
    have lw : LwA c2 a3 P (cw C', cl C', xch k1 k2 (co C')) := i2.order q2 q1
    have l3 := lowL (v >>> (6 &&& 31)) (n := 4) (by omega) (by omega)
    obtain ⟨k, hk, l3⟩ := l3
    have l3 : g_low (v >>> (6 &&& 31)) 4 = some (nI k) := l3
    obtain ⟨σ3, τ3, t1, t2, t3, t4⟩ := law_y s2 (by omega) hk
    have t1 : f8_law (nI k) σ2 = some (nI (cw C'), σ3) := t1
    have lw2 : LwA (upd c2 3 (nI k)) a3 P (k, cl C', xch k1 k2 (co C')) := lw.law k
    have t2 : InvB j' σ3 τ3 P (k, cl C', xch k1 k2 (co C')) := t2
    have c23 : c2 3 = nI (cw C') := lw.2.2.2.2.2.1
    have F3 : ShF τ3 := ⟨by rw [t3 21 (by omega), s3 21 (by omega) (by omega)]; exact i3.1, by rw [t3 22 (by omega), s3 22 (by omega) (by omega)]; exact i3.2⟩
    obtain ⟨-, wc3, -⟩ := id t2
    obtain ⟨⟨r1, σ4, a11, a12⟩, y1, y2, y3, y4⟩ := readL lw2 t2 (by omega)
    have y2 : r1 = 1 := y2
    subst y2
    have y3 : PB (j' + 1) σ4 τ3 P (k, cl C', xch k1 k2 (co C')) := y3
    have y4 : LwS a11 a12 P (freeSaid P (k, cl C', xch k1 k2 (co C'))) (turnsN P (k, cl C', xch k1 k2 (co C'))) := y4
    obtain ⟨a13, z1, z2⟩ := freeL lw2 w wc3 y4
    unfold g_law_139_b
    rw [if_pos (nI_le (Nat.le_refl _) (by omega)), l3, bd_s, t1, bd_s, ct3, if_pos c23.symm, bd_s, turnsL lw2 wc3, bd_s, if_neg (by omega), if_neg (by omega)]
    dsimp only
    rw [y1, bd_s, if_neg n10]
    dsimp only
    rw [z1, bd_s, if_neg (by omega)]
    refine rowsA hsL k85 (X := X) (by omega) lw2 y3 y4 z2 F3 t4 (by omega) (by omega) (fun a2' τ4 σ5 g' j5 C5 w1 w2 w3 w4 w5 w6 => ?_)
    rw [nI_1]
    refine ih _ ⟨X + 1, j5, τ4, C5, by omega, rfl, w1, w2, w3, by omega, fun z => by omega, fun z => ?_⟩ ?_
    · show g' ≤ 11000
      have := e20 (by omega)
      omega
    · show 10 - (nI (X + 1)).toNatClampNeg < 10 - (nI X).toNatClampNeg
      rw [nI_clamp (by omega), nI_clamp (by omega)]; omega
