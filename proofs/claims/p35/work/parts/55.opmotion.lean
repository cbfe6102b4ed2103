def FC (τ τ' : HS) : Prop := (∀ a, (1 ≤ a ∧ a ≤ 5) ∨ a = 18 ∨ (19 ≤ a ∧ a ≤ 23) → τ'.1 a = τ.1 a) ∧ ∀ y, y ≠ 23 → y ≠ 24 → τ'.1 0 y = τ.1 0 y
theorem FC.tr {a b c : HS} (h : FC a b) (h2 : FC b c) : FC a c := ⟨fun x hx => (h2.1 x hx).trans (h.1 x hx), fun y h1 h3 => (h2.2 y h1 h3).trans (h.2 y h1 h3)⟩
theorem FrM.fc {a b : HS} (h : FrM a b) : FC a b := ⟨fun x hx => h.1 x (by omega) (by omega) (by omega) (by omega), h.2⟩
theorem FrL.fc {a b : HS} (h : FrL a b) : FC a b := ⟨fun x hx => h x (by omega) (by omega), fun y _ _ => by rw [h 0 (by omega) (by omega)]⟩
theorem FrT.fc {a b : HS} (h : FrT a b) : FC a b := ⟨fun x hx => h x (by omega), fun y _ _ => by rw [h 0 (by omega)]⟩
def SoM (P : PP) (C : CC) (k q R : Nat) (x5 : Int32) (τ : HS) : Prop := (x5 = 99 ∧ ∀ R', R' < R → permB (pn P) R' = true → ¬ saidBy P C (dgt (pn P) R') k q) ∨ ∃ R0, R0 < R ∧ permB (pn P) R0 = true ∧ saidBy P C (dgt (pn P) R0) k q ∧ (∀ R', R' < R → permB (pn P) R' = true → saidBy P C (dgt (pn P) R') k q → chg P C (dgt (pn P) R0) (pn P) < chg P C (dgt (pn P) R') (pn P) ∨ (chg P C (dgt (pn P) R0) (pn P) = chg P C (dgt (pn P) R') (pn P) ∧ R0 ≤ R')) ∧ x5 = nI (chg P C (dgt (pn P) R0) (pn P)) ∧ ∀ p, p < pn P → τ.1 17 p = nI (dgt (pn P) R0 p)
def FZ (τ τ' : HS) (P : PP) (C : CC) : Prop := RepM τ' P C ∧ (∀ a, 19 ≤ a → a ≤ 23 → τ'.1 a = τ.1 a) ∧ ∀ y, y ≠ 23 → y ≠ 24 → τ'.1 0 y = τ.1 0 y
theorem motM {τ : HS} {P : PP} {C : CC} {k q : Nat} (rm : RepM τ P C) (w : WfP P) (wc : WfC P C) (hk : k < pn P) (hq : q < pw P k) (x3 : Int32) (hx : 0 ≤ x3 → x3.toNatClampNeg < pn P) : ∃ (x5 : Int32) (τ1 τ' : HS), SoM P C k q (pn P ^ pn P) x5 τ1 ∧ f9_motion_35 (nI k) (nI q) x3 (1, 0, τ) = some (if x5 = 99 then -9 else if 0 ≤ x3 then τ1.1 17 x3.toNatClampNeg else x5, τ') ∧ FZ τ τ' P C := by
  have h5 := w.1
  have h2 : 2 ≤ pn P := by rcases w.2.2.1 with z | z <;> omega
  have hq3 : q < 3 := by have := (w.2.2.2 k hk).2.2.1; omega
  have pw5 : pn P ^ pn P ≤ 3125 := by
    have : pn P = 2 ∨ pn P = 3 ∨ pn P = 4 ∨ pn P = 5 := by omega
    rcases this with z | z | z | z <;> rw [z] <;> decide
  have ix : 0 ≤ x3 → ¬ (x3 < 0 ∨ 6 ≤ x3.toNatClampNeg) := fun z => by
    have := hx z
    rintro (y | y)
    · rw [Int32.le_iff_toInt_le] at z; rw [Int32.lt_iff_toInt_lt] at y; omega
    · omega
  unfold f9_motion_35
  obtain ⟨⟨r1, τ'⟩, p1, x5, τ1, p2, p3, p4⟩ := wl_fuel (body := fun k35 p => f9_motion_35_b k35 (nI k) (nI q) x3 p.1 p.2.1 p.2.2) (fun p : Int32 × Int32 × HS => ∃ m, m ≤ pn P ∧ p.1 = nI (pn P ^ m) ∧ p.2.1 = nI m ∧ (∀ b, b ≠ 18 → p.2.2.1 b = τ.1 b) ∧ ∀ y, y < m → p.2.2.1 18 y = nI (co C y)) (fun p => 10 - p.2.1.toNatClampNeg) (fun r : Int32 × HS => ∃ (x5 : Int32) (τ1 : HS), SoM P C k q (pn P ^ pn P) x5 τ1 ∧ r.1 = (if x5 = 99 then -9 else if 0 ≤ x3 then τ1.1 17 x3.toNatClampNeg else x5) ∧ FZ τ r.2 P C) (1, 0, τ) ⟨0, by omega, rfl, rfl, fun _ _ => rfl, fun y h => absurd h (Nat.not_lt_zero y)⟩ (by show 10 - _ < _; omega) (by
    rintro k35 ⟨x4, x5, τ2⟩ ⟨m, hm, e1, e2, g1, g2⟩ ih
    have e1 : x4 = nI (pn P ^ m) := e1
    have e2 : x5 = nI m := e2
    subst e1 e2
    have g1 : ∀ b, b ≠ 18 → τ2.1 b = τ.1 b := g1
    have g2 : ∀ y, y < m → τ2.1 18 y = nI (co C y) := g2
    dsimp only
    unfold f9_motion_35_b
    rw [g1 0 (by omega), rm.1]
    by_cases c : pn P ≤ m
    · have : m = pn P := by omega
      subst this
      rw [if_pos (nI_le c (by omega))]
      unfold f9_motion_80
      refine wl_fuel (body := fun k80 p => f9_motion_80_b k80 (nI k) (nI q) x3 (nI (pn P ^ pn P)) p.1 p.2.1 p.2.2) (fun p : Int32 × Int32 × HS => ∃ R, R ≤ pn P ^ pn P ∧ p.2.1 = nI R ∧ FC τ2 p.2.2 ∧ SoM P C k q R p.1 p.2.2) (fun p => 5000 - p.2.1.toNatClampNeg) _ (99, 0, τ2) ⟨0, by omega, rfl, ⟨fun _ _ => rfl, fun _ _ _ => rfl⟩, Or.inl ⟨rfl, fun R' h => absurd h (Nat.not_lt_zero R')⟩⟩ (by show 5000 - _ < _; omega) ?_
      rintro k80 ⟨x5, x6, τ3⟩ ⟨R, hR, e3, f1, f2⟩ ih2
      have e3 : x6 = nI R := e3
      subst e3
      have f1 : FC τ2 τ3 := f1
      have f2 : SoM P C k q R x5 τ3 := f2
      dsimp only
      unfold f9_motion_80_b f9_motion_156
      have t1 : τ3.1 0 1 = nI (pn P) := by rw [f1.2 1 (by omega) (by omega), g1 0 (by omega)]; exact rm.1
      have t18 : ∀ p, p < pn P → τ3.1 18 p = nI (co C p) := fun p hp => by rw [f1.1 18 (by omega)]; exact g2 p hp
      by_cases cR : pn P ^ pn P ≤ R
      · have : R = pn P ^ pn P := by omega
        subst this
        rw [if_pos (nI_le cR (by omega))]
        unfold f9_motion_165
        refine wl_fuel (body := fun k165 p => f9_motion_165_b k165 x3 x5 p.1 p.2) (fun p : Int32 × HS => ∃ i, i ≤ pn P ∧ p.1 = nI i ∧ (∀ b, b ≠ 6 → p.2.1 b = τ3.1 b) ∧ ∀ y, y < i → p.2.1 6 y = nI (co C y)) (fun p => 10 - p.1.toNatClampNeg) _ (0, τ3) ⟨0, by omega, rfl, fun _ _ => rfl, fun y h => absurd h (Nat.not_lt_zero y)⟩ (by show 10 - _ < _; omega) ?_
        rintro k165 ⟨x6, τ4⟩ ⟨i, hi, e4, h1, h3⟩ ih3
        have e4 : x6 = nI i := e4
        subst e4
        have h1 : ∀ b, b ≠ 6 → τ4.1 b = τ3.1 b := h1
        have h3 : ∀ y, y < i → τ4.1 6 y = nI (co C y) := h3
        dsimp only
        unfold f9_motion_165_b
        rw [h1 0 (by omega), t1]
        by_cases ci : pn P ≤ i
        · have : i = pn P := by omega
          subst this
          have z0 : ∀ y, y ≠ 23 → y ≠ 24 → τ4.1 0 y = τ.1 0 y := fun y y1 y2 => by rw [h1 0 (by omega), f1.2 y y1 y2, g1 0 (by omega)]
          have z1 : ∀ a, (1 ≤ a ∧ a ≤ 5) ∨ (19 ≤ a ∧ a ≤ 23) → τ4.1 a = τ.1 a := fun a ha => by rw [h1 a (by omega), f1.1 a (by omega), g1 a (by omega)]
          have fb : FZ τ τ4 P C := by
            refine ⟨⟨by rw [z0 1 (by omega) (by omega)]; exact rm.1, by rw [z0 2 (by omega) (by omega)]; exact rm.2.1, by rw [z0 3 (by omega) (by omega)]; exact rm.2.2.1, by rw [z0 4 (by omega) (by omega)]; exact rm.2.2.2.1, ?_, h3⟩, fun a a1 a2 => z1 a (by omega), z0⟩
            rw [z1 1 (by omega), z1 2 (by omega), z1 3 (by omega), z1 4 (by omega), z1 5 (by omega)]
            exact rm.2.2.2.2.1
          rw [if_pos (nI_le ci (by omega))]
          by_cases c9 : x5 = 99
          · rw [if_pos c9]; exact ⟨_, rfl, x5, τ3, f2, by rw [if_pos c9], fb⟩
          · rw [if_neg c9]
            by_cases c0 : 0 ≤ x3
            · rw [if_pos c0, if_neg (ix c0), h1 17 (by omega)]; exact ⟨_, rfl, x5, τ3, f2, by rw [if_neg c9, if_pos c0], fb⟩
            · rw [if_neg c0]; exact ⟨_, rfl, x5, τ3, f2, by rw [if_neg c9, if_neg c0], fb⟩
        · rw [if_neg (nI_ge (by omega) (by omega)), ix_in (by omega) (by omega), ix_in (by omega) (by omega), nI_clamp (by omega), h1 18 (by omega), t18 i (by omega), nI_1]
          refine ih3 _ ⟨i + 1, by omega, rfl, fun b hb => by show (uI τ4 6 _ _).1 b = _; rw [uI_other hb]; exact h1 b hb, fun y hy => ?_⟩ ?_
          · show (uI τ4 6 i _).1 6 y = _
            rw [uI_at]
            by_cases c1 : y = i
            · rw [if_pos ⟨rfl, c1⟩, c1]
            · rw [if_neg (fun z => c1 z.2)]; exact h3 y (by omega)
          · show 10 - (nI (i + 1)).toNatClampNeg < 10 - (nI i).toNatClampNeg
            rw [nI_clamp (by omega), nI_clamp (by omega)]; omega
      · have mu : 5000 - (nI (R + 1)).toNatClampNeg < 5000 - (nI R).toNatClampNeg := by
          rw [nI_clamp (by omega), nI_clamp (by omega)]; omega
        have keep : ∀ τ5 : HS, FC τ2 τ5 → τ5.1 17 = τ3.1 17 → (permB (pn P) R = true → saidBy P C (dgt (pn P) R) k q → ∃ v, x5 = nI v ∧ v ≤ chg P C (dgt (pn P) R) (pn P)) → SoM P C k q (R + 1) x5 τ5 := by
          intro τ5 _ e17 hs
          rcases f2 with ⟨y1, y2⟩ | ⟨R0, y1, y2, y3, y4, y5, y6⟩
          · refine Or.inl ⟨y1, fun R' r1 r2 r3 => ?_⟩
            by_cases ce : R' = R
            · subst ce
              obtain ⟨v, v1, v2⟩ := hs r2 r3
              have := chg_le P C (dgt (pn P) R') (pn P)
              rw [y1] at v1
              have := (nIc (k := 99) (by omega) (by omega)).mp v1
              omega
            · exact y2 R' (by omega) r2 r3
          · refine Or.inr ⟨R0, by omega, y2, y3, fun R' r1 r2 r3 => ?_, y5, fun p hp => by rw [e17]; exact y6 p hp⟩
            by_cases ce : R' = R
            · subst ce
              obtain ⟨v, v1, v2⟩ := hs r2 r3
              have c1 := chg_le P C (dgt (pn P) R') (pn P)
              have c2 := chg_le P C (dgt (pn P) R0) (pn P)
              rw [y5] at v1
              have := (nIc (by omega) (by omega)).mp v1
              omega
            · exact y4 R' (by omega) r2 r3
        obtain ⟨r, τ4, v1, v2, v3⟩ := lay_o (R := R) t1 h2 h5 (by omega)
        rw [if_neg (nI_ge (by omega) (by omega)), v1, bd_s]
        rcases v3 with ⟨rfl, pb, o6⟩ | ⟨rfl, pb⟩
        · have t41 : τ4.1 0 1 = nI (pn P) := by rw [v2 0 (by omega)]; exact t1
          have t418 : ∀ p, p < pn P → τ4.1 18 p = nI (co C p) := fun p hp => by rw [v2 18 (by omega)]; exact t18 p hp
          have oc := other_c w wc t41 o6 t418
          have cle := chg_le P C (dgt (pn P) R) (pn P)
          have f4 := f1.tr v2.fc
          rw [if_neg n10, oc, bd_s]
          by_cases cx : x5 ≤ nI (chg P C (dgt (pn P) R) (pn P))
          · rw [if_pos cx, nI_1]
            refine ih2 _ ⟨R + 1, by omega, rfl, f4, keep τ4 f4 (v2 17 (by omega)) (fun _ _ => ?_)⟩ mu
            rcases f2 with ⟨y1, y2⟩ | ⟨R0, y1, y2, y3, y4, y5, y6⟩
            · rw [y1, Int32.le_iff_toInt_le, nI_toInt (by omega), tp99] at cx; omega
            · have c2 := chg_le P C (dgt (pn P) R0) (pn P)
              rw [y5, Int32.le_iff_toInt_le, nI_toInt (by omega), nI_toInt (by omega)] at cx
              exact ⟨_, y5, by omega⟩
          · have wci : WfC P (cw C, cl C, dgt (pn P) R) := ⟨wc.1, wc.2.1, fun z => by omega, fun p _ => dgt_lt (by omega), fun p r hp hr e => perm_inj pb hp hr e⟩
            have rm4 : RepM τ4 P (cw C, cl C, dgt (pn P) R) := by
              refine ⟨by rw [f4.2 1 (by omega) (by omega), g1 0 (by omega)]; exact rm.1, by rw [f4.2 2 (by omega) (by omega), g1 0 (by omega)]; exact rm.2.1, by rw [f4.2 3 (by omega) (by omega), g1 0 (by omega)]; exact rm.2.2.1, by rw [f4.2 4 (by omega) (by omega), g1 0 (by omega)]; exact rm.2.2.2.1, ?_, o6⟩
              rw [f4.1 1 (by omega), f4.1 2 (by omega), f4.1 3 (by omega), f4.1 4 (by omega), f4.1 5 (by omega), g1 1 (by omega), g1 2 (by omega), g1 3 (by omega), g1 4 (by omega), g1 5 (by omega)]
              exact rm.2.2.2.2.1
            obtain ⟨τ5, τ6, u1, u2, u3, u4, u5⟩ := goFree_m rm4 w wci
            have rm6 := u3.rm (u2.rm rm4)
            have f6 := (f4.tr u2.fc).tr u3.fc
            obtain ⟨s, w1, w2⟩ := isM rm6 w wci (free_ok w wci) u5 hk hq3
            have e17 : τ6.1 17 = τ3.1 17 := by rw [u3.1 17 (by omega) (by omega) (by omega) (by omega), u2 17 (by omega) (by omega), v2 17 (by omega)]
            rw [if_neg cx, u1, bd_s, w1, bd_s]
            rcases w2 with ⟨rfl, sy⟩ | ⟨rfl, sn⟩
            · have sy : saidBy P C (dgt (pn P) R) k q := sy
              rw [if_neg n10, other_c w wc rm6.1 rm6.2.2.2.2.2 (fun p hp => by rw [f6.1 18 (by omega)]; exact g2 p hp), bd_s]
              unfold f9_motion_127
              refine wl_fuel (body := fun k127 p => f9_motion_127_b k80 k127 (nI k) (nI q) x3 (nI (pn P ^ pn P)) (nI (chg P C (dgt (pn P) R) (pn P))) (nI R) p.1 p.2) (fun p : Int32 × HS => ∃ i, i ≤ pn P ∧ p.1 = nI i ∧ (∀ b, b ≠ 17 → p.2.1 b = τ6.1 b) ∧ ∀ y, y < i → p.2.1 17 y = nI (dgt (pn P) R y)) (fun p => 10 - p.1.toNatClampNeg) _ (0, τ6) ⟨0, by omega, rfl, fun _ _ => rfl, fun y h => absurd h (Nat.not_lt_zero y)⟩ (by show 10 - _ < _; omega) ?_
              rintro k127 ⟨x7, τ7⟩ ⟨i, hi, e4, h1, h3⟩ ih3
              have e4 : x7 = nI i := e4
              subst e4
              have h1 : ∀ b, b ≠ 17 → τ7.1 b = τ6.1 b := h1
              have h3 : ∀ y, y < i → τ7.1 17 y = nI (dgt (pn P) R y) := h3
              dsimp only
              unfold f9_motion_127_b f9_motion_156
              rw [h1 0 (by omega), rm6.1]
              by_cases ci : pn P ≤ i
              · have : i = pn P := by omega
                subst this
                rw [if_pos (nI_le ci (by omega)), nI_1]
                refine ih2 _ ⟨R + 1, by omega, rfl, f6.tr ⟨fun a ha => h1 a (by omega), fun y _ _ => by rw [h1 0 (by omega)]⟩, Or.inr ⟨R, by omega, pb, sy, fun R' r1 r2 r3 => ?_, rfl, h3⟩⟩ mu
                by_cases ce : R' = R
                · rw [ce]; exact Or.inr ⟨rfl, Nat.le_refl _⟩
                · left
                  rcases f2 with ⟨y1, y2⟩ | ⟨R0, y1, y2, y3, y4, y5, y6⟩
                  · exact absurd r3 (y2 R' (by omega) r2)
                  · have c2 := chg_le P C (dgt (pn P) R0) (pn P)
                    have := y4 R' (by omega) r2 r3
                    rw [y5, Int32.le_iff_toInt_le, nI_toInt (by omega), nI_toInt (by omega)] at cx
                    omega
              · rw [if_neg (nI_ge (by omega) (by omega)), ix_in (by omega) (by omega), ix_in (by omega) (by omega), nI_clamp (by omega), h1 6 (by omega), rm6.2.2.2.2.2 i (by omega), nI_1]
                refine ih3 _ ⟨i + 1, by omega, rfl, fun b hb => by show (uI τ7 17 _ _).1 b = _; rw [uI_other hb]; exact h1 b hb, fun y hy => ?_⟩ ?_
                · show (uI τ7 17 i _).1 17 y = _
                  rw [uI_at]
                  by_cases c1 : y = i
                  · rw [if_pos ⟨rfl, c1⟩, c1]
                  · rw [if_neg (fun z => c1 z.2)]; exact h3 y (by omega)
                · show 10 - (nI (i + 1)).toNatClampNeg < 10 - (nI i).toNatClampNeg
                  rw [nI_clamp (by omega), nI_clamp (by omega)]; omega
            · rw [if_pos rfl, nI_1]
              exact ih2 _ ⟨R + 1, by omega, rfl, f6, keep τ6 f6 e17 (fun _ z => absurd z sn)⟩ mu
        · rw [if_pos rfl, nI_1]
          exact ih2 _ ⟨R + 1, by omega, rfl, f1.tr v2.fc, keep τ4 (f1.tr v2.fc) (v2 17 (by omega)) (fun z => absurd z pb)⟩ mu
    · have pp : pn P ^ m ≤ pn P ^ pn P := Nat.pow_le_pow_right (by omega) (by omega)
      rw [if_neg (nI_ge (by omega) (by omega)), ix_in (by omega) (by omega), ix_in (by omega) (by omega), nI_clamp (by omega), g1 6 (by omega), rm.2.2.2.2.2 m (by omega)]
      rw [show (uI τ2 18 m (nI (co C m))).1 0 1 = nI (pn P) by rw [uI_other (by omega), g1 0 (by omega)]; exact rm.1, pk_mul, nI_1]
      refine ih _ ⟨m + 1, by omega, by rw [Nat.pow_succ], rfl, fun b hb => by show (uI τ2 18 _ _).1 b = _; rw [uI_other hb]; exact g1 b hb, fun y hy => ?_⟩ ?_
      · show (uI τ2 18 m _).1 18 y = _
        rw [uI_at]
        by_cases c1 : y = m
        · rw [if_pos ⟨rfl, c1⟩, c1]
        · rw [if_neg (fun z => c1 z.2)]; exact g2 y (by omega)
      · show 10 - (nI (m + 1)).toNatClampNeg < 10 - (nI m).toNatClampNeg
        rw [nI_clamp (by omega), nI_clamp (by omega)]; omega)
  have p3 : r1 = _ := p3
  subst p3
  exact ⟨x5, τ1, τ', p2, p1, p4⟩
