/-! the next order -/
def up (od : Nat → Nat) : Nat → Nat
  | 0 => 0
  | m + 1 => if od m < od (m + 1) then m + 1 else up od m
/-- up: one more than the last place with a greater one behind it; 0 if there is none -/
def lastGt (od : Nat → Nat) (a : Nat) : Nat → Nat
  | 0 => a + 1
  | m + 1 => if od a < od (a + 1 + m) then a + 1 + m else lastGt od a m
def swp (od : Nat → Nat) (a b : Nat) : Nat → Nat := fun p => if p = b then od a else if p = a then od b else od p
def rev (od : Nat → Nat) (n a : Nat) : Nat → Nat := fun p => if a < p ∧ p < n then od (n + a - p) else od p
def nxt (n : Nat) (od : Nat → Nat) : Nat → Nat := rev (swp od (up od (n - 1) - 1) (lastGt od (up od (n - 1) - 1) (n - up od (n - 1)))) n (up od (n - 1) - 1)
theorem up_le (od : Nat → Nat) : ∀ m, up od m ≤ m := by
  intro m
  induction m with
  | zero => exact Nat.le_refl _
  | succ m ih => unfold up; split <;> omega
theorem lastGt_b (od : Nat → Nat) (a : Nat) : ∀ m, a < lastGt od a m ∧ lastGt od a m ≤ a + 1 + m := by
  intro m
  induction m with
  | zero => exact ⟨Nat.lt_succ_self a, Nat.le_refl _⟩
  | succ m ih => unfold lastGt; split <;> omega
def FrO (n : Nat) (σ σ' : HS) : Prop := (∀ b, b ≠ 31 → σ'.1 b = σ.1 b) ∧ σ'.2 = σ.2 ∧ ∀ p, n ≤ p → σ'.1 31 p = σ.1 31 p
def Ord (σ : HS) (n : Nat) (od : Nat → Nat) : Prop := ∀ p, p < n → σ.1 31 p = nI (od p)
theorem who30 {σ : HS} {n p : Nat} {od : Nat → Nat} (h : Ord σ n od) (hn : n ≤ 5) (hp : p < n) : f0_whoAt 30 (nI p) σ = some (nI (od p), σ) := by
  unfold f0_whoAt
  rw [at_in (by omega) (by omega), bd_s, h p hp]
theorem exch_c {σ : HS} {n a b : Nat} {od : Nat → Nat} (h : Ord σ n od) (hn : n ≤ 5) (ha : a < n) (hb : b < n) : ∃ σ', f0_exchange 30 (nI a) (nI b) σ = some σ' ∧ FrO n σ σ' ∧ Ord σ' n (swp od a b) := by
  unfold f0_exchange
  rw [who30 h hn ha, bd_s, who30 h hn hb, bd_s, set_in (by omega) (by omega), bd_s, set_in (by omega) (by omega), bd_s]
  refine ⟨_, rfl, ⟨fun x hx => by rw [uI_other hx, uI_other hx], rfl, fun p hp => by rw [uI_at, if_neg (by omega), uI_at, if_neg (by omega)]⟩, fun p hp => ?_⟩
  unfold swp
  rw [uI_at, uI_at]
  by_cases c1 : p = b
  · rw [if_pos ⟨rfl, c1⟩, if_pos c1]
  · rw [if_neg (fun z => c1 z.2), if_neg c1]
    by_cases c2 : p = a
    · rw [if_pos ⟨rfl, c2⟩, if_pos c2]
    · rw [if_neg (fun z => c2 z.2), if_neg c2]; exact h p hp
theorem FrO.tr {n : Nat} {a b c : HS} (h : FrO n a b) (h2 : FrO n b c) : FrO n a c := ⟨fun x hx => (h2.1 x hx).trans (h.1 x hx), h2.2.1.trans h.2.1, fun p hp => (h2.2.2 p hp).trans (h.2.2 p hp)⟩
theorem rev_c {σ : HS} {n a : Nat} {od : Nat → Nat} (h : Ord σ n od) (h5 : σ.1 5 0 = nI n) (hn : n ≤ 5) (ha : a + 1 < n) : ∃ σ', f0_takeNextOrder_117 (nI (a + 1), nI (n - 1), σ) = some (1, σ') ∧ FrO n σ σ' ∧ Ord σ' n (rev od n a) := by
  unfold f0_takeNextOrder_117
  obtain ⟨⟨r1, r2⟩, p1, p2, p3, p4⟩ := wl_fuel (body := fun k117 p => f0_takeNextOrder_117_b k117 p.1 p.2.1 p.2.2) (fun p : Int32 × Int32 × HS => ∃ i, i ≤ n ∧ a + 1 + i ≤ n - 1 + 1 ∧ i ≤ n - 1 ∧ 2 * i ≤ n - 1 - a ∧ p.1 = nI (a + 1 + i) ∧ p.2.1 = nI (n - 1 - i) ∧ FrO n σ p.2.2 ∧ Ord p.2.2 n (fun x => if (a < x ∧ x < a + 1 + i) ∨ (n - 1 - i < x ∧ x < n) then od (n + a - x) else od x)) (fun p => 10 - p.1.toNatClampNeg) (fun r : Int32 × HS => r.1 = 1 ∧ FrO n σ r.2 ∧ Ord r.2 n (rev od n a)) (nI (a + 1), nI (n - 1), σ) ⟨0, by omega, by omega, by omega, by omega, rfl, rfl, ⟨fun _ _ => rfl, rfl, fun _ _ => rfl⟩, fun p hp => by dsimp only; rw [if_neg (by omega)]; exact h p hp⟩ (by show 10 - _ < _; omega) (by
    rintro kk ⟨x3, x4, σ2⟩ ⟨i, i1, i2, i3, i4, e1, e2, g1, g2⟩ ih
    have e1 : x3 = nI (a + 1 + i) := e1
    have e2 : x4 = nI (n - 1 - i) := e2
    subst e1 e2
    have g1 : FrO n σ σ2 := g1
    have g2 : Ord σ2 n (fun x => if (a < x ∧ x < a + 1 + i) ∨ (n - 1 - i < x ∧ x < n) then od (n + a - x) else od x) := g2
    dsimp only
    unfold f0_takeNextOrder_117_b
    by_cases c : n - 1 - i ≤ a + 1 + i
    · rw [if_pos (nI_le c (by omega))]
      refine ⟨_, rfl, rfl, g1, fun p hp => ?_⟩
      have := g2 p hp
      dsimp only at this
      rw [this]
      unfold rev
      by_cases c1 : a < p ∧ p < n
      · rw [if_pos c1]
        by_cases c2 : (a < p ∧ p < a + 1 + i) ∨ (n - 1 - i < p ∧ p < n)
        · rw [if_pos c2]
        · rw [if_neg c2, show n + a - p = p by omega]
      · rw [if_neg c1, if_neg (by omega)]
    · obtain ⟨σ3, v1, v2, v3⟩ := exch_c g2 hn (show a + 1 + i < n by omega) (show n - 1 - i < n by omega)
      rw [if_neg (nI_ge (by omega) (by omega)), v1, bd_s, nI_1, show nI (n - 1 - i) + (-1) = nI (n - 1 - (i + 1)) by
        have := pk_m1 (n - 1 - (i + 1))
        rw [show n - 1 - (i + 1) + 1 = n - 1 - i by omega] at this
        exact this]
      refine ih _ ⟨i + 1, by omega, by omega, by omega, by omega, by rw [show a + 1 + i + 1 = a + 1 + (i + 1) by omega], rfl, g1.tr v2, fun p hp => ?_⟩ ?_
      · have := v3 p hp
        show σ3.1 31 p = _
        rw [this]
        unfold swp
        dsimp only
        by_cases c1 : p = n - 1 - i
        · rw [if_pos c1, if_neg (by omega), if_pos (by omega), show n + a - p = a + 1 + i by omega]
        · rw [if_neg c1]
          by_cases c2 : p = a + 1 + i
          · rw [if_pos c2, if_neg (by omega), if_pos (by omega), show n + a - p = n - 1 - i by omega]
          · rw [if_neg c2]
            by_cases c3 : (a < p ∧ p < a + 1 + i) ∨ (n - 1 - i < p ∧ p < n)
            · rw [if_pos c3, if_pos (by omega)]
            · rw [if_neg c3, if_neg (by omega)]
      · show 10 - (nI (a + 1 + i + 1)).toNatClampNeg < 10 - (nI (a + 1 + i)).toNatClampNeg
        rw [nI_clamp (by omega), nI_clamp (by omega)]; omega)
  have p2 : r1 = 1 := p2
  subst p2
  exact ⟨r2, p1, p3, p4⟩
theorem next_o {σ : HS} {n : Nat} {od : Nat → Nat} (h : Ord σ n od) (h5 : σ.1 5 0 = nI n) (hn : n ≤ 5) (h1 : 1 ≤ n) (hb : ∀ p, p < n → od p < n) : (up od (n - 1) = 0 ∧ f0_takeNextOrder σ = some (0, σ)) ∨ (¬ up od (n - 1) = 0 ∧ ∃ σ', f0_takeNextOrder σ = some (1, σ') ∧ FrO n σ σ' ∧ Ord σ' n (nxt n od)) := by
  unfold f0_takeNextOrder f0_takeNextOrder_4
  have fin : ∀ r : Option (Int32 × HS), f0_takeNextOrder_45 (if up od (n - 1) = 0 then -1 else nI (up od (n - 1) - 1)) σ = r → (∃ y, r = some y) → wloop (fun k4 p => f0_takeNextOrder_4_b k4 p.1 p.2.1 p.2.2) fuelN (-1, 0, σ) = r := by
    rintro r hr ⟨y, rfl⟩
    refine wl_eq (fun p : Int32 × Int32 × HS => ∃ m, m ≤ n - 1 ∧ p = ((if up od m = 0 then -1 else nI (up od m - 1)), nI m, σ)) (fun p => 10 - p.2.1.toNatClampNeg) y _ ⟨0, by omega, rfl⟩ (by show 10 - _ < _; omega) ?_
    rintro kk _ ⟨m, hm, rfl⟩ ih
    dsimp only
    unfold f0_takeNextOrder_4_b f0_takeNextOrder_39
    rw [h5, nI_1]
    have ul := up_le od m
    by_cases c : n ≤ m + 1
    · have : m = n - 1 := by omega
      subst this
      rw [if_pos (nI_le c (by omega))]
      exact hr
    · have o1 := hb m (by omega)
      have o2 := hb (m + 1) (by omega)
      have go : ∀ z : Int32, z = (if up od (m + 1) = 0 then -1 else nI (up od (m + 1) - 1)) → kk (z, nI (m + 1), σ) = some y := by
        rintro z rfl
        refine ih _ ⟨m + 1, by omega, rfl⟩ ?_
        show 10 - (nI (m + 1)).toNatClampNeg < 10 - (nI m).toNatClampNeg
        rw [nI_clamp (by omega), nI_clamp (by omega)]; omega
      rw [if_neg (nI_ge (by omega) (by omega)), if_neg (show ¬ (5 : Int32) ≤ nI m from nI_ge (b := 5) (by omega) (by omega)), who30 h hn (by omega), bd_s, who30 h hn (by omega), bd_s]
      by_cases c2 : od m < od (m + 1)
      · rw [if_neg (nI_ge c2 (by omega))]
        exact go _ (by rw [up, if_pos c2, if_neg (by omega), Nat.add_sub_cancel])
      · rw [if_pos (nI_le (by omega) (by omega))]
        exact go _ (by rw [up, if_neg c2])
  have ul := up_le od (n - 1)
  by_cases c0 : up od (n - 1) = 0
  · left
    refine ⟨c0, fin _ ?_ ⟨_, rfl⟩⟩
    unfold f0_takeNextOrder_45
    rw [if_pos c0, if_neg (show ¬ (0 : Int32) ≤ -1 by decide)]
  · right
    refine ⟨c0, ?_⟩
    generalize hu : up od (n - 1) = u at *
    have lb := lastGt_b od (u - 1) (n - u)
    obtain ⟨σ1, v1, v2, v3⟩ := exch_c h hn (show u - 1 < n by omega) (show lastGt od (u - 1) (n - u) < n from by
      have : ∀ m, u - 1 + 1 + m ≤ n → lastGt od (u - 1) m < n := by
        intro m
        induction m with
        | zero => intro hm; show u - 1 + 1 < n; omega
        | succ m ihm => intro hm; unfold lastGt; split; omega; exact ihm (by omega)
      exact this (n - u) (by omega))
    have h5' : σ1.1 5 0 = nI n := by rw [v2.1 5 (by omega)]; exact h5
    obtain ⟨σ2, w1, w2, w3⟩ := rev_c v3 h5' hn (show u - 1 + 1 < n by omega)
    refine ⟨σ2, fin _ ?_ ⟨_, rfl⟩, v2.tr w2, by unfold nxt; rw [hu]; exact w3⟩
    unfold f0_takeNextOrder_45 f0_takeNextOrder_59
    rw [if_neg c0, if_pos (nI_pos' (by omega)), nI_1]
    refine wl_eq (fun p : Int32 × Int32 × HS => ∃ m, m ≤ n - u ∧ p = (nI (lastGt od (u - 1) m), nI (u - 1 + 1 + m), σ)) (fun p => 10 - p.2.1.toNatClampNeg) _ _ ⟨0, by omega, rfl⟩ (by show 10 - _ < _; omega) ?_
    rintro kk _ ⟨m, hm, rfl⟩ ih
    dsimp only
    unfold f0_takeNextOrder_59_b f0_takeNextOrder_90 f0_takeNextOrder_96
    rw [h5]
    by_cases c : n ≤ u - 1 + 1 + m
    · have : m = n - u := by omega
      subst this
      rw [if_pos (nI_le c (by omega)), v1, bd_s, h5', nI_1, show nI n - 1 = nI (n - 1) by show nI n - nI 1 = _; rw [pk_sub (by omega)]]
      exact w1
    · have o1 := hb (u - 1 + 1 + m) (by omega)
      have o2 := hb (u - 1) (by omega)
      have go : ∀ z : Nat, z = lastGt od (u - 1) (m + 1) → kk (nI z, nI (u - 1 + 1 + m) + 1, σ) = some (1, σ2) := by
        rintro z rfl
        rw [nI_1]
        refine ih _ ⟨m + 1, by omega, rfl⟩ ?_
        show 10 - (nI (u - 1 + 1 + m + 1)).toNatClampNeg < 10 - (nI (u - 1 + 1 + m)).toNatClampNeg
        rw [nI_clamp (by omega), nI_clamp (by omega)]; omega
      rw [if_neg (nI_ge (by omega) (by omega)), if_neg (show ¬ (5 : Int32) ≤ nI (u - 1 + 1 + m) from nI_ge (b := 5) (by omega) (by omega)), who30 h hn (by omega), bd_s, who30 h hn (by omega), bd_s]
      by_cases c2 : od (u - 1) < od (u - 1 + 1 + m)
      · rw [if_neg (nI_ge c2 (by omega))]
        exact go _ (by rw [lastGt, if_pos c2])
      · rw [if_pos (nI_le (by omega) (by omega))]
        exact go _ (by rw [lastGt, if_neg c2])
