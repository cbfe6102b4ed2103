def FC (τ τ' : HS) : Prop := (∀ a, (1 ≤ a ∧ a ≤ 5) ∨ a = 18 ∨ (19 ≤ a ∧ a ≤ 23) → τ'.1 a = τ.1 a) ∧ ∀ y, y ≠ 23 → y ≠ 24 → τ'.1 0 y = τ.1 0 y
theorem FC.tr {a b c : HS} (h : FC a b) (h2 : FC b c) : FC a c := ⟨fun x hx => (h2.1 x hx).trans (h.1 x hx), fun y h1 h3 => (h2.2 y h1 h3).trans (h.2 y h1 h3)⟩
theorem FrM.fc {a b : HS} (h : FrM a b) : FC a b := ⟨fun x hx => h.1 x (by omega) (by omega) (by omega) (by omega), h.2⟩
theorem FrL.fc {a b : HS} (h : FrL a b) : FC a b := ⟨fun x hx => h x (by omega) (by omega), fun y _ _ => by rw [h 0 (by omega) (by omega)]⟩
theorem FrT.fc {a b : HS} (h : FrT a b) : FC a b := ⟨fun x hx => h x (by omega), fun y _ _ => by rw [h 0 (by omega)]⟩
def SoM (P : PP) (C : CC) (k q R : Nat) (x5 : Int32) (τ : HS) : Prop := (x5 = 99 ∧ ∀ R', R' < R → permB (pn P) R' = true → ¬ saidBy P C (dgt (pn P) R') k q) ∨ ∃ R0, R0 < R ∧ permB (pn P) R0 = true ∧ saidBy P C (dgt (pn P) R0) k q ∧ (∀ R', R' < R → permB (pn P) R' = true → saidBy P C (dgt (pn P) R') k q → chg P C (dgt (pn P) R0) (pn P) < chg P C (dgt (pn P) R') (pn P) ∨ (chg P C (dgt (pn P) R0) (pn P) = chg P C (dgt (pn P) R') (pn P) ∧ R0 ≤ R')) ∧ x5 = nI (chg P C (dgt (pn P) R0) (pn P)) ∧ ∀ p, p < pn P → τ.1 17 p = nI (dgt (pn P) R0 p)
theorem motM {τ : HS} {P : PP} {C : CC} {k q : Nat} (rm : RepM τ P C) (w : WfP P) (wc : WfC P C) (hk : k < pn P) (hq : q < pw P k) (x3 : Int32) (hx : 0 ≤ x3 → x3.toNatClampNeg < pn P) : ∃ (x5 : Int32) (τ1 τ' : HS), SoM P C k q (pn P ^ pn P) x5 τ1 ∧ f9_motion_35 (nI k) (nI q) x3 (1, 0, τ) = some (if x5 = 99 then -9 else if 0 ≤ x3 then τ1.1 17 x3.toNatClampNeg else x5, τ') ∧ FB τ τ' := by
  have h5 := w.1
  have h2 : 2 ≤ pn P := by rcases w.2.2.1 with z | z <;> omega
  have hq3 : q < 3 := by have := (w.2.2.2 k hk).2.2.1; omega
  have pw5 : pn P ^ pn P ≤ 3125 := by
    have : pn P = 2 ∨ pn P = 3 ∨ pn P = 4 ∨ pn P = 5 := by omega
    rcases this with z | z | z | z <;> rw [z] <;> decide
  have ix : 0 ≤ x3 → ¬ (x3 < 0 ∨ 6 ≤ x3.toNatClampNeg) := fun z => by
    have := hx z
    rintro (y | y)
    · rw [Int32.le_iff_toInt_le] at z; rw [Int32.lt_iff_toInt_lt] at y; omega
    · omega
  unfold f9_motion_35
  obtain ⟨⟨r1, τ'⟩, p1, x5, τ1, p2, p3, p4⟩ := wl_fuel (body := fun k35 p => f9_motion_35_b k35 (nI k) (nI q) x3 p.1 p.2.1 p.2.2) (fun p : Int32 × Int32 × HS => ∃ m, m ≤ pn P ∧ p.1 = nI (pn P ^ m) ∧ p.2.1 = nI m ∧ (∀ b, b ≠ 18 → p.2.2.1 b = τ.1 b) ∧ ∀ y, y < m → p.2.2.1 18 y = nI (co C y)) (fun p => 10 - p.2.1.toNatClampNeg) (fun r : Int32 × HS => ∃ (x5 : Int32) (τ1 : HS), SoM P C k q (pn P ^ pn P) x5 τ1 ∧ r.1 = (if x5 = 99 then -9 else if 0 ≤ x3 then τ1.1 17 x3.toNatClampNeg else x5) ∧ FB τ r.2) (1, 0, τ) ⟨0, by omega, rfl, rfl, fun _ _ => rfl, fun y h => absurd h (Nat.not_lt_zero y)⟩ (by show 10 - _ < _; omega) (by
    rintro k35 ⟨x4, x5, τ2⟩ ⟨m, hm, e1, e2, g1, g2⟩ ih
    have e1 : x4 = nI (pn P ^ m) := e1
    have e2 : x5 = nI m := e2
    subst e1 e2
    have g1 : ∀ b, b ≠ 18 → τ2.1 b = τ.1 b := g1
    have g2 : ∀ y, y < m → τ2.1 18 y = nI (co C y) := g2
    dsimp only
    unfold f9_motion_35_b
    rw [g1 0 (by omega), rm.1]
    by_cases c : pn P ≤ m
    · have : m = pn P := by omega
      subst this
      rw [if_pos (nI_le c (by omega))]
      unfold f9_motion_80
      refine wl_fuel (body := fun k80 p => f9_motion_80_b k80 (nI k) (nI q) x3 (nI (pn P ^ pn P)) p.1 p.2.1 p.2.2) (fun p : Int32 × Int32 × HS => ∃ R, R ≤ pn P ^ pn P ∧ p.2.1 = nI R ∧ FC τ2 p.2.2 ∧ SoM P C k q R p.1 p.2.2) (fun p => 5000 - p.2.1.toNatClampNeg) _ (99, 0, τ2) ⟨0, by omega, rfl, ⟨fun _ _ => rfl, fun _ _ _ => rfl⟩, Or.inl ⟨rfl, fun R' h => absurd h (Nat.not_lt_zero R')⟩⟩ (by show 5000 - _ < _; omega) ?_
      rintro k80 ⟨x5, x6, τ3⟩ ⟨R, hR, e3, f1, f2⟩ ih2
      have e3 : x6 = nI R := e3
      subst e3
      have f1 : FC τ2 τ3 := f1
      have f2 : SoM P C k q R x5 τ3 := f2
      dsimp only
      unfold f9_motion_80_b f9_motion_156
      have t1 : τ3.1 0 1 = nI (pn P) := by rw [f1.2 1 (by omega) (by omega), g1 0 (by omega)]; exact rm.1
      have t18 : ∀ p, p < pn P → τ3.1 18 p = nI (co C p) := fun p hp => by rw [f1.1 18 (by omega)]; exact g2 p hp
      by_cases cR : pn P ^ pn P ≤ R
      · have : R = pn P ^ pn P := by omega
        subst this
        rw [if_pos (nI_le cR (by omega))]
        unfold f9_motion_165
        refine wl_fuel (body := fun k165 p => f9_motion_165_b k165 x3 x5 p.1 p.2) (fun p : Int32 × HS => ∃ i, i ≤ pn P ∧ p.1 = nI i ∧ (∀ b, b ≠ 6 → p.2.1 b = τ3.1 b) ∧ ∀ y, y < i → p.2.1 6 y = nI (co C y)) (fun p => 10 - p.1.toNatClampNeg) _ (0, τ3) ⟨0, by omega, rfl, fun _ _ => rfl, fun y h => absurd h (Nat.not_lt_zero y)⟩ (by show 10 - _ < _; omega) ?_
        rintro k165 ⟨x6, τ4⟩ ⟨i, hi, e4, h1, h3⟩ ih3
        have e4 : x6 = nI i := e4
        subst e4
        have h1 : ∀ b, b ≠ 6 → τ4.1 b = τ3.1 b := h1
        have h3 : ∀ y, y < i → τ4.1 6 y = nI (co C y) := h3
        dsimp only
        unfold f9_motion_165_b
        rw [h1 0 (by omega), t1]
        by_cases ci : pn P ≤ i
        · have : i = pn P := by omega
          subst this
          have fb : FB τ τ4 := sorry
          rw [if_pos (nI_le ci (by omega))]
          by_cases c9 : x5 = 99
          · rw [if_pos c9]; exact ⟨_, rfl, x5, τ3, f2, by rw [if_pos c9], fb⟩
          · rw [if_neg c9]
            by_cases c0 : 0 ≤ x3
            · rw [if_pos c0, if_neg (ix c0), h1 17 (by omega)]; exact ⟨_, rfl, x5, τ3, f2, by rw [if_neg c9, if_pos c0], fb⟩
            · rw [if_neg c0]; exact ⟨_, rfl, x5, τ3, f2, by rw [if_neg c9, if_neg c0], fb⟩
        · rw [if_neg (nI_ge (by omega) (by omega)), ix_in (by omega) (by omega), ix_in (by omega) (by omega), nI_clamp (by omega), h1 18 (by omega), t18 i (by omega), nI_1]
          refine ih3 _ ⟨i + 1, by omega, rfl, fun b hb => by show (uI τ4 6 _ _).1 b = _; rw [uI_other hb]; exact h1 b hb, fun y hy => ?_⟩ ?_
          · show (uI τ4 6 i _).1 6 y = _
            rw [uI_at]
            by_cases c1 : y = i
            · rw [if_pos ⟨rfl, c1⟩, c1]
            · rw [if_neg (fun z => c1 z.2)]; exact h3 y (by omega)
          · show 10 - (nI (i + 1)).toNatClampNeg < 10 - (nI i).toNatClampNeg
            rw [nI_clamp (by omega), nI_clamp (by omega)]; omega
      · sorry
    · have pp : pn P ^ m ≤ pn P ^ pn P := Nat.pow_le_pow_right (by omega) (by omega)
      rw [if_neg (nI_ge (by omega) (by omega)), ix_in (by omega) (by omega), ix_in (by omega) (by omega), nI_clamp (by omega), g1 6 (by omega), rm.2.2.2.2.2 m (by omega)]
      rw [show (uI τ2 18 m (nI (co C m))).1 0 1 = nI (pn P) by rw [uI_other (by omega), g1 0 (by omega)]; exact rm.1, pk_mul, nI_1]
      refine ih _ ⟨m + 1, by omega, by rw [Nat.pow_succ], rfl, fun b hb => by show (uI τ2 18 _ _).1 b = _; rw [uI_other hb]; exact g1 b hb, fun y hy => ?_⟩ ?_
      · show (uI τ2 18 m _).1 18 y = _
        rw [uI_at]
        by_cases c1 : y = m
        · rw [if_pos ⟨rfl, c1⟩, c1]
        · rw [if_neg (fun z => c1 z.2)]; exact g2 y (by omega)
      · show 10 - (nI (m + 1)).toNatClampNeg < 10 - (nI m).toNatClampNeg
        rw [nI_clamp (by omega), nI_clamp (by omega)]; omega)
  have p3 : r1 = _ := p3
  subst p3
  exact ⟨x5, τ1, τ', p2, p1, p4⟩
